/-! BracketHall$Mending.chooseSteps()V -/
def f_X2_chooseSteps_L40 : Nat → Int → Mem → Option (Mem)
  | 0, _, _ => none
  | n + 1, v1, M =>
    if (M 66 10) ≤ v1 then
      some M
    else
      if (0 : Int) ≤ v1 ∧ v1 < 240 then
      if (M 73 v1) = (-1) then
        if (0 : Int) ≤ v1 ∧ v1 < 242 then
        (f_X2_settle v1 (M 72 v1) M).bind fun p66 =>
        lt1 (p66.1) fun v2_73 =>
        if v2_73 = (-1) then
          if (p66.2 73 v1) = (-1) then
            (f_X2_addStep (p66.2 66 14) v1 (p66.2 68 v1) p66.2).bind fun p141 =>
            if (0 : Int) ≤ w32 (v1 + 1) ∧ w32 (v1 + 1) < 242 then
            lt1 (up p141 72 (w32 (v1 + 1)) (p141 72 v1)) fun M157 =>
            lt1 (w32 (v1 + 1)) fun v1_188 =>
            f_X2_chooseSteps_L40 n v1_188 M157
            else none
          else
            if (p66.2 73 v1) = (p66.2 68 v1) then
              lt1 (w32 (v1 + 1)) fun v1_188 =>
              f_X2_chooseSteps_L40 n v1_188 p66.2
            else
              (f_X2_addStep 2 v1 (p66.2 73 v1) p66.2).bind fun p185 =>
              lt1 (w32 (v1 + 1)) fun v1_188 =>
              f_X2_chooseSteps_L40 n v1_188 p185
        else
          if (0 : Int) ≤ v2_73 ∧ v2_73 < 240 then
          lt1 (up p66.2 73 v2_73 (w32 ((p66.2 68 v1) + 1))) fun M92 =>
          if (0 : Int) ≤ w32 (v1 + 1) ∧ w32 (v1 + 1) < 242 then
          lt1 (up M92 72 (w32 (v1 + 1)) v2_73) fun M101 =>
          if (0 : Int) ≤ w32 (v2_73 + 1) ∧ w32 (v2_73 + 1) < 242 then
          lt1 (up M101 72 (w32 (v2_73 + 1)) (M101 72 v1)) fun M115 =>
          lt1 (w32 (v1 + 1)) fun v1_188 =>
          f_X2_chooseSteps_L40 n v1_188 M115
          else none
          else none
          else none
        else none
      else
        if (M 73 v1) = (-1) then
          (f_X2_addStep (M 66 14) v1 (M 68 v1) M).bind fun p141 =>
          if (0 : Int) ≤ v1 ∧ v1 < 242 then
          if (0 : Int) ≤ w32 (v1 + 1) ∧ w32 (v1 + 1) < 242 then
          lt1 (up p141 72 (w32 (v1 + 1)) (p141 72 v1)) fun M157 =>
          lt1 (w32 (v1 + 1)) fun v1_188 =>
          f_X2_chooseSteps_L40 n v1_188 M157
          else none
          else none
        else
          if (M 73 v1) = (M 68 v1) then
            lt1 (w32 (v1 + 1)) fun v1_188 =>
            f_X2_chooseSteps_L40 n v1_188 M
          else
            (f_X2_addStep 2 v1 (M 73 v1) M).bind fun p185 =>
            lt1 (w32 (v1 + 1)) fun v1_188 =>
            f_X2_chooseSteps_L40 n v1_188 p185
      else none
def f_X2_chooseSteps_L7 : Nat → Int → Mem → Option (Mem)
  | 0, _, _ => none
  | n + 1, v1, M =>
    if (M 66 10) ≤ v1 then
      f_X2_chooseSteps_L40 4096 0 M
    else
      if (0 : Int) ≤ v1 ∧ v1 < 240 then
      lt1 (up M 73 v1 (-1)) fun M21 =>
      if (0 : Int) ≤ v1 ∧ v1 < 242 then
      lt1 (up M21 72 v1 (M21 66 10)) fun M31 =>
      lt1 (w32 (v1 + 1)) fun v1_32 =>
      f_X2_chooseSteps_L7 n v1_32 M31
      else none
      else none
def f_X2_chooseSteps  (M : Mem) : Option (Mem) :=
  lt1 (up M 66 11 0) fun M2 =>
  f_X2_chooseSteps_L7 4096 0 M2
set_option maxRecDepth 20000 in
theorem rn_X2_chooseSteps_L40 {G : Gl} : ∀ (n : Nat) (v1 : Int) (M : Mem) (res : Mem),  f_X2_chooseSteps_L40 n v1 M = some res → Run G false (rmD 2 0 0) miX2_chooseSteps (ZP G none res) 0 0 40 [some (aR 66), some (aI v1), none] [] M := by
  intro n
  induction n with
  | zero => intro v1 M res  hf; cases hf
  | succ n ih =>
    intro v1 M res  hf
    rw [f_X2_chooseSteps_L40] at hf
    refine R_iload_n dX2_chooseSteps_40 rfl rfl ?_
    refine R_aload_n dX2_chooseSteps_41 rfl rfl ?_
    refine R_getI (ki := 10) dX2_chooseSteps_42 cl2 flX2_43 o_66 ff2_10 rfl rfl ?_
    refine R_icmp_ge dX2_chooseSteps_45 rfl (fun h45 => ?_) (fun h45 => ?_)
    · replace hf := iposE hf h45
      cases hf; exact E_vret dX2_chooseSteps_194 rfl rfl rfl
    · replace hf := inegE hf h45
      refine R_aload_n dX2_chooseSteps_48 rfl rfl ?_
      refine R_getR dX2_chooseSteps_49 cl2 flX2_31 o_66 ff2_6 (fr2_6 _) a_73.1 ?_
      refine R_iload_n dX2_chooseSteps_52 rfl rfl ?_
      obtain ⟨hg1, hf⟩ := gdE hf
      refine R_iaload dX2_chooseSteps_53 a_73 hg1.1 hg1.2 rfl ?_
      refine R_iconst dX2_chooseSteps_54 (v := (-1)) rfl ?_
      refine R_icmp_ne dX2_chooseSteps_55 rfl (fun h55 => ?_) (fun h55 => ?_)
      · replace hf := inegE hf h55
        refine R_iconst dX2_chooseSteps_72 (v := (-1)) rfl ?_
        refine R_istore_n dX2_chooseSteps_73 rfl (by decide) rfl rfl ?_
        refine R_iload_n dX2_chooseSteps_74 rfl rfl ?_
        refine R_iconst dX2_chooseSteps_75 (v := (-1)) rfl ?_
        refine R_icmp_eq dX2_chooseSteps_76 rfl (fun _ => ?_) (fun h => absurd h (by decide))
        refine R_aload_n dX2_chooseSteps_119 rfl rfl ?_
        refine R_getR dX2_chooseSteps_120 cl2 flX2_31 o_66 ff2_6 (fr2_6 _) a_73.1 ?_
        refine R_iload_n dX2_chooseSteps_123 rfl rfl ?_
        refine R_iaload dX2_chooseSteps_124 a_73 hg1.1 hg1.2 rfl ?_
        refine R_iconst dX2_chooseSteps_125 (v := (-1)) rfl ?_
        refine R_icmp_ne dX2_chooseSteps_126 rfl (fun h126 => ?_) (fun h126 => ?_)
        · replace hf := inegE hf h126
          refine R_aload_n dX2_chooseSteps_161 rfl rfl ?_
          refine R_getR dX2_chooseSteps_162 cl2 flX2_31 o_66 ff2_6 (fr2_6 _) a_73.1 ?_
          refine R_iload_n dX2_chooseSteps_165 rfl rfl ?_
          refine R_iaload dX2_chooseSteps_166 a_73 hg1.1 hg1.2 rfl ?_
          refine R_aload_n dX2_chooseSteps_167 rfl rfl ?_
          refine R_getR dX2_chooseSteps_168 cl2 flX2_15 o_66 ff2_1 (fr2_1 _) a_68.1 ?_
          refine R_iload_n dX2_chooseSteps_171 rfl rfl ?_
          refine R_iaload dX2_chooseSteps_172 a_68 hg1.1 hg1.2 rfl ?_
          refine R_icmp_eq dX2_chooseSteps_173 rfl (fun h173 => ?_) (fun h173 => ?_)
          · replace hf := iposE hf h173
            obtain ⟨v1_188, hv1_188, hf⟩ := ltE hf
            refine R_iinc dX2_chooseSteps_188 rfl rfl hv1_188 (by decide) rfl ?_
            refine R_goto dX2_chooseSteps_191 rfl ?_
            exact R_subk (ih _ _ _  hf) ⟨rfl, rfl, trivial⟩
          · replace hf := inegE hf h173
            refine R_aload_n dX2_chooseSteps_176 rfl rfl ?_
            refine R_iconst dX2_chooseSteps_177 (v := 2) rfl ?_
            refine R_iload_n dX2_chooseSteps_178 rfl rfl ?_
            refine R_aload_n dX2_chooseSteps_179 rfl rfl ?_
            refine R_getR dX2_chooseSteps_180 cl2 flX2_31 o_66 ff2_6 (fr2_6 _) a_73.1 ?_
            refine R_iload_n dX2_chooseSteps_183 rfl rfl ?_
            refine R_iaload dX2_chooseSteps_184 a_73 hg1.1 hg1.2 rfl ?_
            obtain ⟨p185, hp185, hf⟩ := bdE hf
            refine R_callV (As := [aI 2, aI v1, aI (M 73 v1)]) (st := []) dX2_chooseSteps_185 (ct_X2_addStep _ _ _ _  hp185) mwX2_addStep mvX2_addStep mlX2_115 cl2 o_66 rfl rfl ⟨nle, nle, nle, nle⟩ nle rfl ?_
            obtain ⟨v1_188, hv1_188, hf⟩ := ltE hf
            refine R_iinc dX2_chooseSteps_188 rfl rfl hv1_188 (by decide) rfl ?_
            refine R_goto dX2_chooseSteps_191 rfl ?_
            exact R_subk (ih _ _ _  hf) ⟨rfl, rfl, trivial⟩
        · replace hf := iposE hf h126
          refine R_aload_n dX2_chooseSteps_129 rfl rfl ?_
          refine R_aload_n dX2_chooseSteps_130 rfl rfl ?_
          refine R_getI (ki := 14) dX2_chooseSteps_131 cl2 flX2_56 o_66 ff2_14 rfl rfl ?_
          refine R_iload_n dX2_chooseSteps_134 rfl rfl ?_
          refine R_aload_n dX2_chooseSteps_135 rfl rfl ?_
          refine R_getR dX2_chooseSteps_136 cl2 flX2_15 o_66 ff2_1 (fr2_1 _) a_68.1 ?_
          refine R_iload_n dX2_chooseSteps_139 rfl rfl ?_
          refine R_iaload dX2_chooseSteps_140 a_68 hg1.1 hg1.2 rfl ?_
          obtain ⟨p141, hp141, hf⟩ := bdE hf
          refine R_callV (As := [aI (M 66 14), aI v1, aI (M 68 v1)]) (st := []) dX2_chooseSteps_141 (ct_X2_addStep _ _ _ _  hp141) mwX2_addStep mvX2_addStep mlX2_115 cl2 o_66 rfl rfl ⟨nle, nle, nle, nle⟩ nle rfl ?_
          refine R_aload_n dX2_chooseSteps_144 rfl rfl ?_
          refine R_getR dX2_chooseSteps_145 cl2 flX2_28 o_66 ff2_5 (fr2_5 _) a_72.1 ?_
          refine R_iload_n dX2_chooseSteps_148 rfl rfl ?_
          refine R_iconst dX2_chooseSteps_149 (v := 1) rfl ?_
          refine R_iadd dX2_chooseSteps_150 rfl ?_
          refine R_aload_n dX2_chooseSteps_151 rfl rfl ?_
          refine R_getR dX2_chooseSteps_152 cl2 flX2_28 o_66 ff2_5 (fr2_5 _) a_72.1 ?_
          refine R_iload_n dX2_chooseSteps_155 rfl rfl ?_
          obtain ⟨hg2, hf⟩ := gdE hf
          refine R_iaload dX2_chooseSteps_156 a_72 hg2.1 hg2.2 rfl ?_
          obtain ⟨hg3, hf⟩ := gdE hf
          obtain ⟨M157, hM157, hf⟩ := ltE hf
          refine R_iastore dX2_chooseSteps_157 a_72 hg3.1 hg3.2 hM157 ?_
          refine R_goto dX2_chooseSteps_158 rfl ?_
          obtain ⟨v1_188, hv1_188, hf⟩ := ltE hf
          refine R_iinc dX2_chooseSteps_188 rfl rfl hv1_188 (by decide) rfl ?_
          refine R_goto dX2_chooseSteps_191 rfl ?_
          exact R_subk (ih _ _ _  hf) ⟨rfl, rfl, trivial⟩
      · replace hf := iposE hf h55
        refine R_aload_n dX2_chooseSteps_58 rfl rfl ?_
        refine R_iload_n dX2_chooseSteps_59 rfl rfl ?_
        refine R_aload_n dX2_chooseSteps_60 rfl rfl ?_
        refine R_getR dX2_chooseSteps_61 cl2 flX2_28 o_66 ff2_5 (fr2_5 _) a_72.1 ?_
        refine R_iload_n dX2_chooseSteps_64 rfl rfl ?_
        obtain ⟨hg4, hf⟩ := gdE hf
        refine R_iaload dX2_chooseSteps_65 a_72 hg4.1 hg4.2 rfl ?_
        obtain ⟨p66, hp66, hf⟩ := bdE hf
        refine R_callV (As := [aI v1, aI (M 72 v1)]) (st := []) dX2_chooseSteps_66 (ct_X2_settle _ _ _  hp66) mwX2_settle mvX2_settle mlX2_88 cl2 o_66 rfl rfl ⟨nle, nle, nle, nle⟩ nle rfl ?_
        refine R_goto dX2_chooseSteps_69 rfl ?_
        obtain ⟨v2_73, hv2_73, hf⟩ := ltE hf
        refine R_istore_n dX2_chooseSteps_73 rfl (by decide) hv2_73 rfl ?_
        refine R_iload_n dX2_chooseSteps_74 rfl rfl ?_
        refine R_iconst dX2_chooseSteps_75 (v := (-1)) rfl ?_
        refine R_icmp_eq dX2_chooseSteps_76 rfl (fun h76 => ?_) (fun h76 => ?_)
        · replace hf := iposE hf h76
          refine R_aload_n dX2_chooseSteps_119 rfl rfl ?_
          refine R_getR dX2_chooseSteps_120 cl2 flX2_31 o_66 ff2_6 (fr2_6 _) a_73.1 ?_
          refine R_iload_n dX2_chooseSteps_123 rfl rfl ?_
          refine R_iaload dX2_chooseSteps_124 a_73 hg1.1 hg1.2 rfl ?_
          refine R_iconst dX2_chooseSteps_125 (v := (-1)) rfl ?_
          refine R_icmp_ne dX2_chooseSteps_126 rfl (fun h126 => ?_) (fun h126 => ?_)
          · replace hf := inegE hf h126
            refine R_aload_n dX2_chooseSteps_161 rfl rfl ?_
            refine R_getR dX2_chooseSteps_162 cl2 flX2_31 o_66 ff2_6 (fr2_6 _) a_73.1 ?_
            refine R_iload_n dX2_chooseSteps_165 rfl rfl ?_
            refine R_iaload dX2_chooseSteps_166 a_73 hg1.1 hg1.2 rfl ?_
            refine R_aload_n dX2_chooseSteps_167 rfl rfl ?_
            refine R_getR dX2_chooseSteps_168 cl2 flX2_15 o_66 ff2_1 (fr2_1 _) a_68.1 ?_
            refine R_iload_n dX2_chooseSteps_171 rfl rfl ?_
            refine R_iaload dX2_chooseSteps_172 a_68 hg1.1 hg1.2 rfl ?_
            refine R_icmp_eq dX2_chooseSteps_173 rfl (fun h173 => ?_) (fun h173 => ?_)
            · replace hf := iposE hf h173
              obtain ⟨v1_188, hv1_188, hf⟩ := ltE hf
              refine R_iinc dX2_chooseSteps_188 rfl rfl hv1_188 (by decide) rfl ?_
              refine R_goto dX2_chooseSteps_191 rfl ?_
              exact R_subk (ih _ _ _  hf) ⟨rfl, rfl, trivial⟩
            · replace hf := inegE hf h173
              refine R_aload_n dX2_chooseSteps_176 rfl rfl ?_
              refine R_iconst dX2_chooseSteps_177 (v := 2) rfl ?_
              refine R_iload_n dX2_chooseSteps_178 rfl rfl ?_
              refine R_aload_n dX2_chooseSteps_179 rfl rfl ?_
              refine R_getR dX2_chooseSteps_180 cl2 flX2_31 o_66 ff2_6 (fr2_6 _) a_73.1 ?_
              refine R_iload_n dX2_chooseSteps_183 rfl rfl ?_
              refine R_iaload dX2_chooseSteps_184 a_73 hg1.1 hg1.2 rfl ?_
              obtain ⟨p185, hp185, hf⟩ := bdE hf
              refine R_callV (As := [aI 2, aI v1, aI (p66.2 73 v1)]) (st := []) dX2_chooseSteps_185 (ct_X2_addStep _ _ _ _  hp185) mwX2_addStep mvX2_addStep mlX2_115 cl2 o_66 rfl rfl ⟨nle, nle, nle, nle⟩ nle rfl ?_
              obtain ⟨v1_188, hv1_188, hf⟩ := ltE hf
              refine R_iinc dX2_chooseSteps_188 rfl rfl hv1_188 (by decide) rfl ?_
              refine R_goto dX2_chooseSteps_191 rfl ?_
              exact R_subk (ih _ _ _  hf) ⟨rfl, rfl, trivial⟩
          · replace hf := iposE hf h126
            refine R_aload_n dX2_chooseSteps_129 rfl rfl ?_
            refine R_aload_n dX2_chooseSteps_130 rfl rfl ?_
            refine R_getI (ki := 14) dX2_chooseSteps_131 cl2 flX2_56 o_66 ff2_14 rfl rfl ?_
            refine R_iload_n dX2_chooseSteps_134 rfl rfl ?_
            refine R_aload_n dX2_chooseSteps_135 rfl rfl ?_
            refine R_getR dX2_chooseSteps_136 cl2 flX2_15 o_66 ff2_1 (fr2_1 _) a_68.1 ?_
            refine R_iload_n dX2_chooseSteps_139 rfl rfl ?_
            refine R_iaload dX2_chooseSteps_140 a_68 hg1.1 hg1.2 rfl ?_
            obtain ⟨p141, hp141, hf⟩ := bdE hf
            refine R_callV (As := [aI (p66.2 66 14), aI v1, aI (p66.2 68 v1)]) (st := []) dX2_chooseSteps_141 (ct_X2_addStep _ _ _ _  hp141) mwX2_addStep mvX2_addStep mlX2_115 cl2 o_66 rfl rfl ⟨nle, nle, nle, nle⟩ nle rfl ?_
            refine R_aload_n dX2_chooseSteps_144 rfl rfl ?_
            refine R_getR dX2_chooseSteps_145 cl2 flX2_28 o_66 ff2_5 (fr2_5 _) a_72.1 ?_
            refine R_iload_n dX2_chooseSteps_148 rfl rfl ?_
            refine R_iconst dX2_chooseSteps_149 (v := 1) rfl ?_
            refine R_iadd dX2_chooseSteps_150 rfl ?_
            refine R_aload_n dX2_chooseSteps_151 rfl rfl ?_
            refine R_getR dX2_chooseSteps_152 cl2 flX2_28 o_66 ff2_5 (fr2_5 _) a_72.1 ?_
            refine R_iload_n dX2_chooseSteps_155 rfl rfl ?_
            refine R_iaload dX2_chooseSteps_156 a_72 hg4.1 hg4.2 rfl ?_
            obtain ⟨hg5, hf⟩ := gdE hf
            obtain ⟨M157, hM157, hf⟩ := ltE hf
            refine R_iastore dX2_chooseSteps_157 a_72 hg5.1 hg5.2 hM157 ?_
            refine R_goto dX2_chooseSteps_158 rfl ?_
            obtain ⟨v1_188, hv1_188, hf⟩ := ltE hf
            refine R_iinc dX2_chooseSteps_188 rfl rfl hv1_188 (by decide) rfl ?_
            refine R_goto dX2_chooseSteps_191 rfl ?_
            exact R_subk (ih _ _ _  hf) ⟨rfl, rfl, trivial⟩
        · replace hf := inegE hf h76
          refine R_aload_n dX2_chooseSteps_79 rfl rfl ?_
          refine R_getR dX2_chooseSteps_80 cl2 flX2_31 o_66 ff2_6 (fr2_6 _) a_73.1 ?_
          refine R_iload_n dX2_chooseSteps_83 rfl rfl ?_
          refine R_aload_n dX2_chooseSteps_84 rfl rfl ?_
          refine R_getR dX2_chooseSteps_85 cl2 flX2_15 o_66 ff2_1 (fr2_1 _) a_68.1 ?_
          refine R_iload_n dX2_chooseSteps_88 rfl rfl ?_
          refine R_iaload dX2_chooseSteps_89 a_68 hg1.1 hg1.2 rfl ?_
          refine R_iconst dX2_chooseSteps_90 (v := 1) rfl ?_
          refine R_iadd dX2_chooseSteps_91 rfl ?_
          obtain ⟨hg6, hf⟩ := gdE hf
          obtain ⟨M92, hM92, hf⟩ := ltE hf
          refine R_iastore dX2_chooseSteps_92 a_73 hg6.1 hg6.2 hM92 ?_
          refine R_aload_n dX2_chooseSteps_93 rfl rfl ?_
          refine R_getR dX2_chooseSteps_94 cl2 flX2_28 o_66 ff2_5 (fr2_5 _) a_72.1 ?_
          refine R_iload_n dX2_chooseSteps_97 rfl rfl ?_
          refine R_iconst dX2_chooseSteps_98 (v := 1) rfl ?_
          refine R_iadd dX2_chooseSteps_99 rfl ?_
          refine R_iload_n dX2_chooseSteps_100 rfl rfl ?_
          obtain ⟨hg7, hf⟩ := gdE hf
          obtain ⟨M101, hM101, hf⟩ := ltE hf
          refine R_iastore dX2_chooseSteps_101 a_72 hg7.1 hg7.2 hM101 ?_
          refine R_aload_n dX2_chooseSteps_102 rfl rfl ?_
          refine R_getR dX2_chooseSteps_103 cl2 flX2_28 o_66 ff2_5 (fr2_5 _) a_72.1 ?_
          refine R_iload_n dX2_chooseSteps_106 rfl rfl ?_
          refine R_iconst dX2_chooseSteps_107 (v := 1) rfl ?_
          refine R_iadd dX2_chooseSteps_108 rfl ?_
          refine R_aload_n dX2_chooseSteps_109 rfl rfl ?_
          refine R_getR dX2_chooseSteps_110 cl2 flX2_28 o_66 ff2_5 (fr2_5 _) a_72.1 ?_
          refine R_iload_n dX2_chooseSteps_113 rfl rfl ?_
          refine R_iaload dX2_chooseSteps_114 a_72 hg4.1 hg4.2 rfl ?_
          obtain ⟨hg8, hf⟩ := gdE hf
          obtain ⟨M115, hM115, hf⟩ := ltE hf
          refine R_iastore dX2_chooseSteps_115 a_72 hg8.1 hg8.2 hM115 ?_
          refine R_goto dX2_chooseSteps_116 rfl ?_
          obtain ⟨v1_188, hv1_188, hf⟩ := ltE hf
          refine R_iinc dX2_chooseSteps_188 rfl rfl hv1_188 (by decide) rfl ?_
          refine R_goto dX2_chooseSteps_191 rfl ?_
          exact R_subk (ih _ _ _  hf) ⟨rfl, rfl, trivial⟩
set_option maxRecDepth 20000 in
theorem rn_X2_chooseSteps_L7 {G : Gl} : ∀ (n : Nat) (v1 : Int) (M : Mem) (res : Mem),  f_X2_chooseSteps_L7 n v1 M = some res → Run G false (rmD 2 0 0) miX2_chooseSteps (ZP G none res) 0 0 7 [some (aR 66), some (aI v1), none] [] M := by
  intro n
  induction n with
  | zero => intro v1 M res  hf; cases hf
  | succ n ih =>
    intro v1 M res  hf
    rw [f_X2_chooseSteps_L7] at hf
    refine R_iload_n dX2_chooseSteps_7 rfl rfl ?_
    refine R_aload_n dX2_chooseSteps_8 rfl rfl ?_
    refine R_getI (ki := 10) dX2_chooseSteps_9 cl2 flX2_43 o_66 ff2_10 rfl rfl ?_
    refine R_icmp_ge dX2_chooseSteps_12 rfl (fun h12 => ?_) (fun h12 => ?_)
    · replace hf := iposE hf h12
      refine R_iconst dX2_chooseSteps_38 (v := 0) rfl ?_
      refine R_istore_n dX2_chooseSteps_39 rfl (by decide) rfl rfl ?_
      exact R_subk (rn_X2_chooseSteps_L40 4096 _ _ _  hf) ⟨rfl, rfl, trivial⟩
    · replace hf := inegE hf h12
      refine R_aload_n dX2_chooseSteps_15 rfl rfl ?_
      refine R_getR dX2_chooseSteps_16 cl2 flX2_31 o_66 ff2_6 (fr2_6 _) a_73.1 ?_
      refine R_iload_n dX2_chooseSteps_19 rfl rfl ?_
      refine R_iconst dX2_chooseSteps_20 (v := (-1)) rfl ?_
      obtain ⟨hg9, hf⟩ := gdE hf
      obtain ⟨M21, hM21, hf⟩ := ltE hf
      refine R_iastore dX2_chooseSteps_21 a_73 hg9.1 hg9.2 hM21 ?_
      refine R_aload_n dX2_chooseSteps_22 rfl rfl ?_
      refine R_getR dX2_chooseSteps_23 cl2 flX2_28 o_66 ff2_5 (fr2_5 _) a_72.1 ?_
      refine R_iload_n dX2_chooseSteps_26 rfl rfl ?_
      refine R_aload_n dX2_chooseSteps_27 rfl rfl ?_
      refine R_getI (ki := 10) dX2_chooseSteps_28 cl2 flX2_43 o_66 ff2_10 rfl rfl ?_
      obtain ⟨hg10, hf⟩ := gdE hf
      obtain ⟨M31, hM31, hf⟩ := ltE hf
      refine R_iastore dX2_chooseSteps_31 a_72 hg10.1 hg10.2 hM31 ?_
      obtain ⟨v1_32, hv1_32, hf⟩ := ltE hf
      refine R_iinc dX2_chooseSteps_32 rfl rfl hv1_32 (by decide) rfl ?_
      refine R_goto dX2_chooseSteps_35 rfl ?_
      exact R_subk (ih _ _ _  hf) ⟨rfl, rfl, trivial⟩
set_option maxRecDepth 20000 in
theorem ct_X2_chooseSteps {G : Gl}  (M : Mem) {res : Mem}  (hf : f_X2_chooseSteps  M = some res) : Ct G miX2_chooseSteps yX2_chooseSteps 2 [aR 66] M none res := by
  refine Ct.of (L := [some (aR 66), none, none]) mwX2_chooseSteps rfl trivial nle ⟨rfl, trivial⟩ ?_
  unfold f_X2_chooseSteps at hf
  refine R_aload_n dX2_chooseSteps_0 rfl rfl ?_
  refine R_iconst dX2_chooseSteps_1 (v := 0) rfl ?_
  obtain ⟨M2, hM2, hf⟩ := ltE hf
  refine R_put (ki := 11) dX2_chooseSteps_2 cl2 flX2_47 o_66 (Or.inl fz2_11) rfl hM2 ?_
  refine R_iconst dX2_chooseSteps_5 (v := 0) rfl ?_
  refine R_istore_n dX2_chooseSteps_6 rfl (by decide) rfl rfl ?_
  exact R_subk (rn_X2_chooseSteps_L7 4096 _ _ _  hf) ⟨rfl, rfl, trivial⟩
/-! BracketHall$Mending.hasStep(I)Z -/
def f_X2_hasStep (v1 : Int) (M : Mem) : Option (Int) :=
  if v1 < 0 then
    some 0
  else
    if (M 66 11) ≤ v1 then
      some 0
    else
      if 240 ≤ v1 then
        some 0
      else
        some 1
set_option maxRecDepth 20000 in
theorem ct_X2_hasStep {G : Gl} (v1 : Int) (M : Mem) {res : Int}  (hf : f_X2_hasStep v1 M = some res) : Ct G miX2_hasStep yX2_hasStep 0 [aR 66, aI v1] M (some (aI res)) M := by
  refine Ct.of (L := [some (aR 66), some (aI v1)]) mwX2_hasStep rfl trivial nle ⟨rfl, rfl, trivial⟩ ?_
  unfold f_X2_hasStep at hf
  refine R_iload_n dX2_hasStep_0 rfl rfl ?_
  refine R_if_lt dX2_hasStep_1 rfl (fun h1 => ?_) (fun h1 => ?_)
  · replace hf := iposE hf h1
    refine R_iconst dX2_hasStep_23 (v := 0) rfl ?_
    cases hf; exact E_zret dX2_hasStep_24 rfl (by decide) rfl rfl
  · replace hf := inegE hf h1
    refine R_iload_n dX2_hasStep_4 rfl rfl ?_
    refine R_aload_n dX2_hasStep_5 rfl rfl ?_
    refine R_getI (ki := 11) dX2_hasStep_6 cl2 flX2_47 o_66 ff2_11 rfl rfl ?_
    refine R_icmp_ge dX2_hasStep_9 rfl (fun h9 => ?_) (fun h9 => ?_)
    · replace hf := iposE hf h9
      refine R_iconst dX2_hasStep_23 (v := 0) rfl ?_
      cases hf; exact E_zret dX2_hasStep_24 rfl (by decide) rfl rfl
    · replace hf := inegE hf h9
      refine R_iload_n dX2_hasStep_12 rfl rfl ?_
      refine R_sipush dX2_hasStep_13 (v := 240) rfl ?_
      refine R_icmp_ge dX2_hasStep_16 rfl (fun h16 => ?_) (fun h16 => ?_)
      · replace hf := iposE hf h16
        refine R_iconst dX2_hasStep_23 (v := 0) rfl ?_
        cases hf; exact E_zret dX2_hasStep_24 rfl (by decide) rfl rfl
      · replace hf := inegE hf h16
        refine R_iconst dX2_hasStep_19 (v := 1) rfl ?_
        refine R_goto dX2_hasStep_20 rfl ?_
        cases hf; exact E_zret dX2_hasStep_24 rfl (by decide) rfl rfl
/-! BracketHall$Mending.actOf(I)I -/
def f_X2_actOf (v1 : Int) (M : Mem) : Option (Int) :=
  (f_X2_hasStep v1 M).bind fun p2 =>
  if p2 = 0 then
    some (-1)
  else
    if (0 : Int) ≤ v1 ∧ v1 < 240 then
    some (M 74 v1)
    else none
set_option maxRecDepth 20000 in
theorem ct_X2_actOf {G : Gl} (v1 : Int) (M : Mem) {res : Int}  (hf : f_X2_actOf v1 M = some res) : Ct G miX2_actOf yX2_actOf 1 [aR 66, aI v1] M (some (aI res)) M := by
  refine Ct.of (L := [some (aR 66), some (aI v1)]) mwX2_actOf rfl trivial nle ⟨rfl, rfl, trivial⟩ ?_
  unfold f_X2_actOf at hf
  refine R_aload_n dX2_actOf_0 rfl rfl ?_
  refine R_iload_n dX2_actOf_1 rfl rfl ?_
  obtain ⟨p2, hp2, hf⟩ := bdE hf
  refine R_callV (As := [aI v1]) (st := []) dX2_actOf_2 (ct_X2_hasStep _ _  hp2) mwX2_hasStep mvX2_hasStep mlX2_119 cl2 o_66 rfl rfl ⟨nle, nle, nle, nle⟩ nle rfl ?_
  refine R_if_eq dX2_actOf_5 rfl (fun h5 => ?_) (fun h5 => ?_)
  · replace hf := iposE hf h5
    refine R_iconst dX2_actOf_17 (v := (-1)) rfl ?_
    cases hf; exact E_iret dX2_actOf_18 rfl rfl rfl
  · replace hf := inegE hf h5
    refine R_aload_n dX2_actOf_8 rfl rfl ?_
    refine R_getR dX2_actOf_9 cl2 flX2_34 o_66 ff2_7 (fr2_7 _) a_74.1 ?_
    refine R_iload_n dX2_actOf_12 rfl rfl ?_
    obtain ⟨hg1, hf⟩ := gdE hf
    refine R_iaload dX2_actOf_13 a_74 hg1.1 hg1.2 rfl ?_
    refine R_goto dX2_actOf_14 rfl ?_
    cases hf; exact E_iret dX2_actOf_18 rfl rfl rfl
/-! BracketHall$Mending.placeOf(I)I -/
def f_X2_placeOf (v1 : Int) (M : Mem) : Option (Int) :=
  (f_X2_hasStep v1 M).bind fun p2 =>
  if p2 = 0 then
    some (-1)
  else
    if (0 : Int) ≤ v1 ∧ v1 < 240 then
    some (M 75 v1)
    else none
set_option maxRecDepth 20000 in
theorem ct_X2_placeOf {G : Gl} (v1 : Int) (M : Mem) {res : Int}  (hf : f_X2_placeOf v1 M = some res) : Ct G miX2_placeOf yX2_placeOf 1 [aR 66, aI v1] M (some (aI res)) M := by
  refine Ct.of (L := [some (aR 66), some (aI v1)]) mwX2_placeOf rfl trivial nle ⟨rfl, rfl, trivial⟩ ?_
  unfold f_X2_placeOf at hf
  refine R_aload_n dX2_placeOf_0 rfl rfl ?_
  refine R_iload_n dX2_placeOf_1 rfl rfl ?_
  obtain ⟨p2, hp2, hf⟩ := bdE hf
  refine R_callV (As := [aI v1]) (st := []) dX2_placeOf_2 (ct_X2_hasStep _ _  hp2) mwX2_hasStep mvX2_hasStep mlX2_119 cl2 o_66 rfl rfl ⟨nle, nle, nle, nle⟩ nle rfl ?_
  refine R_if_eq dX2_placeOf_5 rfl (fun h5 => ?_) (fun h5 => ?_)
  · replace hf := iposE hf h5
    refine R_iconst dX2_placeOf_17 (v := (-1)) rfl ?_
    cases hf; exact E_iret dX2_placeOf_18 rfl rfl rfl
  · replace hf := inegE hf h5
    refine R_aload_n dX2_placeOf_8 rfl rfl ?_
    refine R_getR dX2_placeOf_9 cl2 flX2_37 o_66 ff2_8 (fr2_8 _) a_75.1 ?_
    refine R_iload_n dX2_placeOf_12 rfl rfl ?_
    obtain ⟨hg1, hf⟩ := gdE hf
    refine R_iaload dX2_placeOf_13 a_75 hg1.1 hg1.2 rfl ?_
    refine R_goto dX2_placeOf_14 rfl ?_
    cases hf; exact E_iret dX2_placeOf_18 rfl rfl rfl
/-! BracketHall$Mending.roleOf(I)I -/
def f_X2_roleOf (v1 : Int) (M : Mem) : Option (Int) :=
  (f_X2_hasStep v1 M).bind fun p2 =>
  if p2 = 0 then
    some (-1)
  else
    if (0 : Int) ≤ v1 ∧ v1 < 240 then
    some (M 76 v1)
    else none
set_option maxRecDepth 20000 in
theorem ct_X2_roleOf {G : Gl} (v1 : Int) (M : Mem) {res : Int}  (hf : f_X2_roleOf v1 M = some res) : Ct G miX2_roleOf yX2_roleOf 1 [aR 66, aI v1] M (some (aI res)) M := by
  refine Ct.of (L := [some (aR 66), some (aI v1)]) mwX2_roleOf rfl trivial nle ⟨rfl, rfl, trivial⟩ ?_
  unfold f_X2_roleOf at hf
  refine R_aload_n dX2_roleOf_0 rfl rfl ?_
  refine R_iload_n dX2_roleOf_1 rfl rfl ?_
  obtain ⟨p2, hp2, hf⟩ := bdE hf
  refine R_callV (As := [aI v1]) (st := []) dX2_roleOf_2 (ct_X2_hasStep _ _  hp2) mwX2_hasStep mvX2_hasStep mlX2_119 cl2 o_66 rfl rfl ⟨nle, nle, nle, nle⟩ nle rfl ?_
  refine R_if_eq dX2_roleOf_5 rfl (fun h5 => ?_) (fun h5 => ?_)
  · replace hf := iposE hf h5
    refine R_iconst dX2_roleOf_17 (v := (-1)) rfl ?_
    cases hf; exact E_iret dX2_roleOf_18 rfl rfl rfl
  · replace hf := inegE hf h5
    refine R_aload_n dX2_roleOf_8 rfl rfl ?_
    refine R_getR dX2_roleOf_9 cl2 flX2_40 o_66 ff2_9 (fr2_9 _) a_76.1 ?_
    refine R_iload_n dX2_roleOf_12 rfl rfl ?_
    obtain ⟨hg1, hf⟩ := gdE hf
    refine R_iaload dX2_roleOf_13 a_76 hg1.1 hg1.2 rfl ?_
    refine R_goto dX2_roleOf_14 rfl ?_
    cases hf; exact E_iret dX2_roleOf_18 rfl rfl rfl
/-! BracketHall$Mending.growth()I -/
def f_X2_growth_L4 : Nat → Int → Int → Mem → Option (Int)
  | 0, _, _, _ => none
  | n + 1, v1, v2, M =>
    if (M 66 11) ≤ v2 then
      some v1
    else
      (f_X2_actOf v2 M).bind fun p14 =>
      if p14 = 1 then
        lt1 (w32 (v1 + 1)) fun v1_21 =>
        lt1 (w32 (v2 + 1)) fun v2_38 =>
        f_X2_growth_L4 n v1_21 v2_38 M
      else
        (f_X2_actOf v2 M).bind fun p29 =>
        if p29 = 0 then
          lt1 (w32 (v1 + (-1))) fun v1_35 =>
          lt1 (w32 (v2 + 1)) fun v2_38 =>
          f_X2_growth_L4 n v1_35 v2_38 M
        else
          lt1 (w32 (v2 + 1)) fun v2_38 =>
          f_X2_growth_L4 n v1 v2_38 M
def f_X2_growth  (M : Mem) : Option (Int) :=
  f_X2_growth_L4 4096 0 0 M
set_option maxRecDepth 20000 in
theorem rn_X2_growth_L4 {G : Gl} : ∀ (n : Nat) (v1 : Int) (v2 : Int) (M : Mem) (res : Int),  f_X2_growth_L4 n v1 v2 M = some res → Run G false (rmD 2 0 0) miX2_growth (ZP G (some (aI res)) M) 0 0 4 [some (aR 66), some (aI v1), some (aI v2)] [] M := by
  intro n
  induction n with
  | zero => intro v1 v2 M res  hf; cases hf
  | succ n ih =>
    intro v1 v2 M res  hf
    rw [f_X2_growth_L4] at hf
    refine R_iload_n dX2_growth_4 rfl rfl ?_
    refine R_aload_n dX2_growth_5 rfl rfl ?_
    refine R_getI (ki := 11) dX2_growth_6 cl2 flX2_47 o_66 ff2_11 rfl rfl ?_
    refine R_icmp_ge dX2_growth_9 rfl (fun h9 => ?_) (fun h9 => ?_)
    · replace hf := iposE hf h9
      refine R_iload_n dX2_growth_44 rfl rfl ?_
      cases hf; exact E_iret dX2_growth_45 rfl rfl rfl
    · replace hf := inegE hf h9
      refine R_aload_n dX2_growth_12 rfl rfl ?_
      refine R_iload_n dX2_growth_13 rfl rfl ?_
      obtain ⟨p14, hp14, hf⟩ := bdE hf
      refine R_callV (As := [aI v2]) (st := []) dX2_growth_14 (ct_X2_actOf _ _  hp14) mwX2_actOf mvX2_actOf mlX2_122 cl2 o_66 rfl rfl ⟨nle, nle, nle, nle⟩ nle rfl ?_
      refine R_iconst dX2_growth_17 (v := 1) rfl ?_
      refine R_icmp_ne dX2_growth_18 rfl (fun h18 => ?_) (fun h18 => ?_)
      · replace hf := inegE hf h18
        refine R_aload_n dX2_growth_27 rfl rfl ?_
        refine R_iload_n dX2_growth_28 rfl rfl ?_
        obtain ⟨p29, hp29, hf⟩ := bdE hf
        refine R_callV (As := [aI v2]) (st := []) dX2_growth_29 (ct_X2_actOf _ _  hp29) mwX2_actOf mvX2_actOf mlX2_122 cl2 o_66 rfl rfl ⟨nle, nle, nle, nle⟩ nle rfl ?_
        refine R_if_ne dX2_growth_32 rfl (fun h32 => ?_) (fun h32 => ?_)
        · replace hf := inegE hf h32
          obtain ⟨v2_38, hv2_38, hf⟩ := ltE hf
          refine R_iinc dX2_growth_38 rfl rfl hv2_38 (by decide) rfl ?_
          refine R_goto dX2_growth_41 rfl ?_
          exact R_subk (ih _ _ _ _  hf) ⟨rfl, rfl, rfl, trivial⟩
        · replace hf := iposE hf h32
          obtain ⟨v1_35, hv1_35, hf⟩ := ltE hf
          refine R_iinc dX2_growth_35 rfl rfl hv1_35 (by decide) rfl ?_
          obtain ⟨v2_38, hv2_38, hf⟩ := ltE hf
          refine R_iinc dX2_growth_38 rfl rfl hv2_38 (by decide) rfl ?_
          refine R_goto dX2_growth_41 rfl ?_
          exact R_subk (ih _ _ _ _  hf) ⟨rfl, rfl, rfl, trivial⟩
      · replace hf := iposE hf h18
        obtain ⟨v1_21, hv1_21, hf⟩ := ltE hf
        refine R_iinc dX2_growth_21 rfl rfl hv1_21 (by decide) rfl ?_
        refine R_goto dX2_growth_24 rfl ?_
        obtain ⟨v2_38, hv2_38, hf⟩ := ltE hf
        refine R_iinc dX2_growth_38 rfl rfl hv2_38 (by decide) rfl ?_
        refine R_goto dX2_growth_41 rfl ?_
        exact R_subk (ih _ _ _ _  hf) ⟨rfl, rfl, rfl, trivial⟩
set_option maxRecDepth 20000 in
theorem ct_X2_growth {G : Gl}  (M : Mem) {res : Int}  (hf : f_X2_growth  M = some res) : Ct G miX2_growth yX2_growth 2 [aR 66] M (some (aI res)) M := by
  refine Ct.of (L := [some (aR 66), none, none]) mwX2_growth rfl trivial nle ⟨rfl, trivial⟩ ?_
  unfold f_X2_growth at hf
  refine R_iconst dX2_growth_0 (v := 0) rfl ?_
  refine R_istore_n dX2_growth_1 rfl (by decide) rfl rfl ?_
  refine R_iconst dX2_growth_2 (v := 0) rfl ?_
  refine R_istore_n dX2_growth_3 rfl (by decide) rfl rfl ?_
  exact R_subk (rn_X2_growth_L4 4096 _ _ _ _  hf) ⟨rfl, rfl, rfl, trivial⟩
/-! BracketHall$Orders.verbOf(I)I -/
def f_X3_verbOf (v1 : Int) (M : Mem) : Option (Int) :=
  if v1 < 0 then
    some (-1)
  else
    if 100 ≤ v1 then
      some (-1)
    else
      if (0 : Int) ≤ v1 ∧ v1 < 100 then
      some (M 9 v1)
      else none
set_option maxRecDepth 20000 in
theorem ct_X3_verbOf {G : Gl} (v1 : Int) (M : Mem) {res : Int}  (hf : f_X3_verbOf v1 M = some res) : Ct G miX3_verbOf yX3_verbOf 0 [aR 8, aI v1] M (some (aI res)) M := by
  refine Ct.of (L := [some (aR 8), some (aI v1)]) mwX3_verbOf rfl trivial nle ⟨rfl, rfl, trivial⟩ ?_
  unfold f_X3_verbOf at hf
  refine R_iload_n dX3_verbOf_0 rfl rfl ?_
  refine R_if_lt dX3_verbOf_1 rfl (fun h1 => ?_) (fun h1 => ?_)
  · replace hf := iposE hf h1
    refine R_iconst dX3_verbOf_19 (v := (-1)) rfl ?_
    cases hf; exact E_iret dX3_verbOf_20 rfl rfl rfl
  · replace hf := inegE hf h1
    refine R_iload_n dX3_verbOf_4 rfl rfl ?_
    refine R_bipush dX3_verbOf_5 (v := 100) rfl ?_
    refine R_icmp_ge dX3_verbOf_7 rfl (fun h7 => ?_) (fun h7 => ?_)
    · replace hf := iposE hf h7
      refine R_iconst dX3_verbOf_19 (v := (-1)) rfl ?_
      cases hf; exact E_iret dX3_verbOf_20 rfl rfl rfl
    · replace hf := inegE hf h7
      refine R_aload_n dX3_verbOf_10 rfl rfl ?_
      refine R_getR dX3_verbOf_11 cl3 flX3_11 o_8 ff3_0 (fr3_0 _) a_9.1 ?_
      refine R_iload_n dX3_verbOf_14 rfl rfl ?_
      obtain ⟨hg1, hf⟩ := gdE hf
      refine R_iaload dX3_verbOf_15 a_9 hg1.1 hg1.2 rfl ?_
      refine R_goto dX3_verbOf_16 rfl ?_
      cases hf; exact E_iret dX3_verbOf_20 rfl rfl rfl
/-! BracketHall$Orders.numberOf(II)I -/
def f_X3_numberOf (v1 : Int) (v2 : Int) (M : Mem) : Option (Int) :=
  if v1 < 0 then
    some (-1)
  else
    if 100 ≤ v1 then
      some (-1)
    else
      if v2 < 0 then
        some (-1)
      else
        if v2 < 3 then
          if (0 : Int) ≤ w32 ((w32 (v1 * 3)) + v2) ∧ w32 ((w32 (v1 * 3)) + v2) < 300 then
          some (M 10 (w32 ((w32 (v1 * 3)) + v2)))
          else none
        else
          some (-1)
set_option maxRecDepth 20000 in
theorem ct_X3_numberOf {G : Gl} (v1 : Int) (v2 : Int) (M : Mem) {res : Int}  (hf : f_X3_numberOf v1 v2 M = some res) : Ct G miX3_numberOf yX3_numberOf 0 [aR 8, aI v1, aI v2] M (some (aI res)) M := by
  refine Ct.of (L := [some (aR 8), some (aI v1), some (aI v2)]) mwX3_numberOf rfl trivial nle ⟨rfl, rfl, rfl, trivial⟩ ?_
  unfold f_X3_numberOf at hf
  refine R_iload_n dX3_numberOf_0 rfl rfl ?_
  refine R_if_lt dX3_numberOf_1 rfl (fun h1 => ?_) (fun h1 => ?_)
  · replace hf := iposE hf h1
    refine R_iconst dX3_numberOf_19 (v := (-1)) rfl ?_
    cases hf; exact E_iret dX3_numberOf_20 rfl rfl rfl
  · replace hf := inegE hf h1
    refine R_iload_n dX3_numberOf_4 rfl rfl ?_
    refine R_bipush dX3_numberOf_5 (v := 100) rfl ?_
    refine R_icmp_ge dX3_numberOf_7 rfl (fun h7 => ?_) (fun h7 => ?_)
    · replace hf := iposE hf h7
      refine R_iconst dX3_numberOf_19 (v := (-1)) rfl ?_
      cases hf; exact E_iret dX3_numberOf_20 rfl rfl rfl
    · replace hf := inegE hf h7
      refine R_iload_n dX3_numberOf_10 rfl rfl ?_
      refine R_if_lt dX3_numberOf_11 rfl (fun h11 => ?_) (fun h11 => ?_)
      · replace hf := iposE hf h11
        refine R_iconst dX3_numberOf_19 (v := (-1)) rfl ?_
        cases hf; exact E_iret dX3_numberOf_20 rfl rfl rfl
      · replace hf := inegE hf h11
        refine R_iload_n dX3_numberOf_14 rfl rfl ?_
        refine R_iconst dX3_numberOf_15 (v := 3) rfl ?_
        refine R_icmp_lt dX3_numberOf_16 rfl (fun h16 => ?_) (fun h16 => ?_)
        · replace hf := iposE hf h16
          refine R_aload_n dX3_numberOf_21 rfl rfl ?_
          refine R_getR dX3_numberOf_22 cl3 flX3_15 o_8 ff3_1 (fr3_1 _) a_10.1 ?_
          refine R_iload_n dX3_numberOf_25 rfl rfl ?_
          refine R_iconst dX3_numberOf_26 (v := 3) rfl ?_
          refine R_imul dX3_numberOf_27 rfl ?_
          refine R_iload_n dX3_numberOf_28 rfl rfl ?_
          refine R_iadd dX3_numberOf_29 rfl ?_
          obtain ⟨hg1, hf⟩ := gdE hf
          refine R_iaload dX3_numberOf_30 a_10 hg1.1 hg1.2 rfl ?_
          cases hf; exact E_iret dX3_numberOf_31 rfl rfl rfl
        · replace hf := inegE hf h16
          refine R_iconst dX3_numberOf_19 (v := (-1)) rfl ?_
          cases hf; exact E_iret dX3_numberOf_20 rfl rfl rfl
/-! BracketHall$Tokens.isEnd()Z -/
def f_X8_isEnd  (M : Mem) : Option (Int) :=
  if (M 3 4) = 0 then
    some 1
  else
    some 0
set_option maxRecDepth 20000 in
theorem ct_X8_isEnd {G : Gl}  (M : Mem) {res : Int}  (hf : f_X8_isEnd  M = some res) : Ct G miX8_isEnd yX8_isEnd 0 [aR 3] M (some (aI res)) M := by
  refine Ct.of (L := [some (aR 3)]) mwX8_isEnd rfl trivial nle ⟨rfl, trivial⟩ ?_
  unfold f_X8_isEnd at hf
  refine R_aload_n dX8_isEnd_0 rfl rfl ?_
  refine R_getI (ki := 4) dX8_isEnd_1 cl8 flX8_21 o_3 ff8_4 rfl rfl ?_
  refine R_if_ne dX8_isEnd_4 rfl (fun h4 => ?_) (fun h4 => ?_)
  · replace hf := inegE hf h4
    refine R_iconst dX8_isEnd_11 (v := 0) rfl ?_
    cases hf; exact E_zret dX8_isEnd_12 rfl (by decide) rfl rfl
  · replace hf := iposE hf h4
    refine R_iconst dX8_isEnd_7 (v := 1) rfl ?_
    refine R_goto dX8_isEnd_8 rfl ?_
    cases hf; exact E_zret dX8_isEnd_12 rfl (by decide) rfl rfl
/-! BracketHall$Tokens.isWord(Ljava/lang/String;)Z -/
def f_X8_isWord_L28 : Nat → Nat → Int → Mem → Option (Int)
  | 0, _, _, _ => none
  | n + 1, o1, v2, M =>
    if (slen o1) ≤ v2 then
      some 1
    else
      (f_X1_byteAt (w32 ((M 3 2) + v2)) M).bind fun p46 =>
      if (0 : Int) ≤ v2 ∧ v2 < slen o1 then
      if p46 = (sch o1 v2) then
        lt1 (w32 (v2 + 1)) fun v2_59 =>
        f_X8_isWord_L28 n o1 v2_59 M
      else
        some 0
      else none
def f_X8_isWord (o1 : Nat) (M : Mem) : Option (Int) :=
  if (M 3 4) = 1 then
    if (w32 ((M 3 3) - (M 3 2))) = (slen o1) then
      f_X8_isWord_L28 4096 o1 0 M
    else
      some 0
  else
    some 0
set_option maxRecDepth 20000 in
theorem rn_X8_isWord_L28 {G : Gl} : ∀ (n : Nat) (o1 : Nat) (v2 : Int) (M : Mem) (res : Int), isS o1 → f_X8_isWord_L28 n o1 v2 M = some res → Run G false (rmD 4 0 0) miX8_isWord (ZP G (some (aI res)) M) 0 0 28 [some (aR 3), some (aR o1), some (aI v2)] [] M := by
  intro n
  induction n with
  | zero => intro o1 v2 M res ho1 hf; cases hf
  | succ n ih =>
    intro o1 v2 M res ho1 hf
    rw [f_X8_isWord_L28] at hf
    refine R_iload_n dX8_isWord_28 rfl rfl ?_
    refine R_aload_n dX8_isWord_29 rfl rfl ?_
    refine R_slen dX8_isWord_30 wd816 ho1 ⟨nle, nle, nle, nle⟩ nle rfl ?_
    refine R_icmp_ge dX8_isWord_33 rfl (fun h33 => ?_) (fun h33 => ?_)
    · replace hf := iposE hf h33
      refine R_iconst dX8_isWord_65 (v := 1) rfl ?_
      cases hf; exact E_zret dX8_isWord_66 rfl (by decide) rfl rfl
    · replace hf := inegE hf h33
      refine R_aload_n dX8_isWord_36 rfl rfl ?_
      refine R_getR dX8_isWord_37 cl8 flX8_24 o_3 ff8_0 (fr8_0 _) o_1.1 ?_
      refine R_aload_n dX8_isWord_40 rfl rfl ?_
      refine R_getI (ki := 2) dX8_isWord_41 cl8 flX8_15 o_3 ff8_2 rfl rfl ?_
      refine R_iload_n dX8_isWord_44 rfl rfl ?_
      refine R_iadd dX8_isWord_45 rfl ?_
      obtain ⟨p46, hp46, hf⟩ := bdE hf
      refine R_callV (As := [aI (w32 ((M 3 2) + v2))]) (st := []) dX8_isWord_46 (ct_X1_byteAt _ _  hp46) mwX1_byteAt mvX1_byteAt mlX8_31 cl1 o_1 rfl rfl ⟨nle, nle, nle, nle⟩ nle rfl ?_
      refine R_aload_n dX8_isWord_49 rfl rfl ?_
      refine R_iload_n dX8_isWord_50 rfl rfl ?_
      obtain ⟨hg1, hf⟩ := gdE hf
      refine R_sch dX8_isWord_51 wd826 ho1 hg1.1 hg1.2 ⟨nle, nle, nle, nle⟩ nle rfl ?_
      refine R_icmp_eq dX8_isWord_54 rfl (fun h54 => ?_) (fun h54 => ?_)
      · replace hf := iposE hf h54
        obtain ⟨v2_59, hv2_59, hf⟩ := ltE hf
        refine R_iinc dX8_isWord_59 rfl rfl hv2_59 (by decide) rfl ?_
        refine R_goto dX8_isWord_62 rfl ?_
        exact R_subk (ih _ _ _ _ ho1 hf) ⟨rfl, rfl, rfl, trivial⟩
      · replace hf := inegE hf h54
        refine R_iconst dX8_isWord_57 (v := 0) rfl ?_
        cases hf; exact E_zret dX8_isWord_58 rfl (by decide) rfl rfl
set_option maxRecDepth 20000 in
theorem ct_X8_isWord {G : Gl} (o1 : Nat) (M : Mem) {res : Int} (ho1 : isS o1) (hf : f_X8_isWord o1 M = some res) : Ct G miX8_isWord yX8_isWord 4 [aR 3, aR o1] M (some (aI res)) M := by
  refine Ct.of (L := [some (aR 3), some (aR o1), none]) mwX8_isWord rfl trivial nle ⟨rfl, rfl, trivial⟩ ?_
  unfold f_X8_isWord at hf
  refine R_aload_n dX8_isWord_0 rfl rfl ?_
  refine R_getI (ki := 4) dX8_isWord_1 cl8 flX8_21 o_3 ff8_4 rfl rfl ?_
  refine R_iconst dX8_isWord_4 (v := 1) rfl ?_
  refine R_icmp_ne dX8_isWord_5 rfl (fun h5 => ?_) (fun h5 => ?_)
  · replace hf := inegE hf h5
    refine R_iconst dX8_isWord_24 (v := 0) rfl ?_
    cases hf; exact E_zret dX8_isWord_25 rfl (by decide) rfl rfl
  · replace hf := iposE hf h5
    refine R_aload_n dX8_isWord_8 rfl rfl ?_
    refine R_getI (ki := 3) dX8_isWord_9 cl8 flX8_18 o_3 ff8_3 rfl rfl ?_
    refine R_aload_n dX8_isWord_12 rfl rfl ?_
    refine R_getI (ki := 2) dX8_isWord_13 cl8 flX8_15 o_3 ff8_2 rfl rfl ?_
    refine R_isub dX8_isWord_16 rfl ?_
    refine R_aload_n dX8_isWord_17 rfl rfl ?_
    refine R_slen dX8_isWord_18 wd816 ho1 ⟨nle, nle, nle, nle⟩ nle rfl ?_
    refine R_icmp_eq dX8_isWord_21 rfl (fun h21 => ?_) (fun h21 => ?_)
    · replace hf := iposE hf h21
      refine R_iconst dX8_isWord_26 (v := 0) rfl ?_
      refine R_istore_n dX8_isWord_27 rfl (by decide) rfl rfl ?_
      exact R_subk (rn_X8_isWord_L28 4096 _ _ _ _ ho1 hf) ⟨rfl, rfl, rfl, trivial⟩
    · replace hf := inegE hf h21
      refine R_iconst dX8_isWord_24 (v := 0) rfl ?_
      cases hf; exact E_zret dX8_isWord_25 rfl (by decide) rfl rfl
/-! BracketHall$Orders.verbIn(LBracketHall$Tokens;)I -/
def f_X3_verbIn  (M : Mem) : Option (Int) :=
  (f_X8_isWord 220 M).bind fun p3 =>
  if p3 = 0 then
    (f_X8_isWord 221 M).bind fun p14 =>
    if p14 = 0 then
      (f_X8_isWord 222 M).bind fun p25 =>
      if p25 = 0 then
        (f_X8_isWord 223 M).bind fun p36 =>
        if p36 = 0 then
          (f_X8_isWord 224 M).bind fun p47 =>
          if p47 = 0 then
            (f_X8_isWord 225 M).bind fun p58 =>
            if p58 = 0 then
              some (-1)
            else
              some 5
          else
            some 4
        else
          some 3
      else
        some 2
    else
      some 1
  else
    some 0
set_option maxRecDepth 20000 in
theorem ct_X3_verbIn {G : Gl}  (M : Mem) {res : Int}  (hf : f_X3_verbIn  M = some res) : Ct G miX3_verbIn yX3_verbIn 5 [aR 3] M (some (aI res)) M := by
  refine Ct.of (L := [some (aR 3)]) mwX3_verbIn rfl trivial nle ⟨rfl, trivial⟩ ?_
  unfold f_X3_verbIn at hf
  refine R_aload_n dX3_verbIn_0 rfl rfl ?_
  refine R_ldcS dX3_verbIn_1 (j := 20) rfl rfl ?_
  obtain ⟨p3, hp3, hf⟩ := bdE hf
  refine R_callV (As := [aR 220]) (st := []) dX3_verbIn_3 (ct_X8_isWord _ _ s_20 hp3) mwX8_isWord mvX8_isWord mlX3_53 cl8 o_3 rfl rfl ⟨nle, nle, nle, nle⟩ nle rfl ?_
  refine R_if_eq dX3_verbIn_6 rfl (fun h6 => ?_) (fun h6 => ?_)
  · replace hf := iposE hf h6
    refine R_aload_n dX3_verbIn_11 rfl rfl ?_
    refine R_ldcS dX3_verbIn_12 (j := 21) rfl rfl ?_
    obtain ⟨p14, hp14, hf⟩ := bdE hf
    refine R_callV (As := [aR 221]) (st := []) dX3_verbIn_14 (ct_X8_isWord _ _ s_21 hp14) mwX8_isWord mvX8_isWord mlX3_53 cl8 o_3 rfl rfl ⟨nle, nle, nle, nle⟩ nle rfl ?_
    refine R_if_eq dX3_verbIn_17 rfl (fun h17 => ?_) (fun h17 => ?_)
    · replace hf := iposE hf h17
      refine R_aload_n dX3_verbIn_22 rfl rfl ?_
      refine R_ldcS dX3_verbIn_23 (j := 22) rfl rfl ?_
      obtain ⟨p25, hp25, hf⟩ := bdE hf
      refine R_callV (As := [aR 222]) (st := []) dX3_verbIn_25 (ct_X8_isWord _ _ s_22 hp25) mwX8_isWord mvX8_isWord mlX3_53 cl8 o_3 rfl rfl ⟨nle, nle, nle, nle⟩ nle rfl ?_
      refine R_if_eq dX3_verbIn_28 rfl (fun h28 => ?_) (fun h28 => ?_)
      · replace hf := iposE hf h28
        refine R_aload_n dX3_verbIn_33 rfl rfl ?_
        refine R_ldcS dX3_verbIn_34 (j := 23) rfl rfl ?_
        obtain ⟨p36, hp36, hf⟩ := bdE hf
        refine R_callV (As := [aR 223]) (st := []) dX3_verbIn_36 (ct_X8_isWord _ _ s_23 hp36) mwX8_isWord mvX8_isWord mlX3_53 cl8 o_3 rfl rfl ⟨nle, nle, nle, nle⟩ nle rfl ?_
        refine R_if_eq dX3_verbIn_39 rfl (fun h39 => ?_) (fun h39 => ?_)
        · replace hf := iposE hf h39
          refine R_aload_n dX3_verbIn_44 rfl rfl ?_
          refine R_ldcS dX3_verbIn_45 (j := 24) rfl rfl ?_
          obtain ⟨p47, hp47, hf⟩ := bdE hf
          refine R_callV (As := [aR 224]) (st := []) dX3_verbIn_47 (ct_X8_isWord _ _ s_24 hp47) mwX8_isWord mvX8_isWord mlX3_53 cl8 o_3 rfl rfl ⟨nle, nle, nle, nle⟩ nle rfl ?_
          refine R_if_eq dX3_verbIn_50 rfl (fun h50 => ?_) (fun h50 => ?_)
          · replace hf := iposE hf h50
            refine R_aload_n dX3_verbIn_55 rfl rfl ?_
            refine R_ldcS dX3_verbIn_56 (j := 25) rfl rfl ?_
            obtain ⟨p58, hp58, hf⟩ := bdE hf
            refine R_callV (As := [aR 225]) (st := []) dX3_verbIn_58 (ct_X8_isWord _ _ s_25 hp58) mwX8_isWord mvX8_isWord mlX3_53 cl8 o_3 rfl rfl ⟨nle, nle, nle, nle⟩ nle rfl ?_
            refine R_if_eq dX3_verbIn_61 rfl (fun h61 => ?_) (fun h61 => ?_)
            · replace hf := iposE hf h61
              refine R_iconst dX3_verbIn_68 (v := (-1)) rfl ?_
              cases hf; exact E_iret dX3_verbIn_69 rfl rfl rfl
            · replace hf := inegE hf h61
              refine R_iconst dX3_verbIn_64 (v := 5) rfl ?_
              refine R_goto dX3_verbIn_65 rfl ?_
              cases hf; exact E_iret dX3_verbIn_69 rfl rfl rfl
          · replace hf := inegE hf h50
            refine R_iconst dX3_verbIn_53 (v := 4) rfl ?_
            cases hf; exact E_iret dX3_verbIn_54 rfl rfl rfl
        · replace hf := inegE hf h39
          refine R_iconst dX3_verbIn_42 (v := 3) rfl ?_
          cases hf; exact E_iret dX3_verbIn_43 rfl rfl rfl
      · replace hf := inegE hf h28
        refine R_iconst dX3_verbIn_31 (v := 2) rfl ?_
        cases hf; exact E_iret dX3_verbIn_32 rfl rfl rfl
    · replace hf := inegE hf h17
      refine R_iconst dX3_verbIn_20 (v := 1) rfl ?_
      cases hf; exact E_iret dX3_verbIn_21 rfl rfl rfl
  · replace hf := inegE hf h6
    refine R_iconst dX3_verbIn_9 (v := 0) rfl ?_
    cases hf; exact E_iret dX3_verbIn_10 rfl rfl rfl
/-! BracketHall$Tokens.sortOf(I)I -/
def f_X8_sortOf_K42 (v0 : Int) (M : Mem) : Option (Int) :=
  if v0 = 59 then
    some 3
  else
    if v0 ≤ 32 then
      some 6
    else
      if 126 < v0 then
        some 6
      else
        some 4
def f_X8_sortOf_K28 (v0 : Int) (M : Mem) : Option (Int) :=
  if v0 < 48 then
    f_X8_sortOf_K42 v0 M
  else
    if 57 < v0 then
      f_X8_sortOf_K42 v0 M
    else
      some 2
def f_X8_sortOf (v0 : Int) (M : Mem) : Option (Int) :=
  if v0 = 32 then
    some 5
  else
    if v0 = 10 then
      some 5
    else
      if v0 < 97 then
        f_X8_sortOf_K28 v0 M
      else
        if 122 < v0 then
          f_X8_sortOf_K28 v0 M
        else
          some 1
set_option maxRecDepth 20000 in
theorem rn_X8_sortOf_K42 {G : Gl} (v0 : Int) (M : Mem) (res : Int)  (hf : f_X8_sortOf_K42 v0 M = some res) : Run G false (rmD 0 0 0) miX8_sortOf (ZP G (some (aI res)) M) 0 0 42 [some (aI v0)] [] M := by
  unfold f_X8_sortOf_K42 at hf
  refine R_iload_n dX8_sortOf_42 rfl rfl ?_
  refine R_bipush dX8_sortOf_43 (v := 59) rfl ?_
  refine R_icmp_ne dX8_sortOf_45 rfl (fun h45 => ?_) (fun h45 => ?_)
  · replace hf := inegE hf h45
    refine R_iload_n dX8_sortOf_50 rfl rfl ?_
    refine R_bipush dX8_sortOf_51 (v := 32) rfl ?_
    refine R_icmp_le dX8_sortOf_53 rfl (fun h53 => ?_) (fun h53 => ?_)
    · replace hf := iposE hf h53
      refine R_bipush dX8_sortOf_66 (v := 6) rfl ?_
      cases hf; exact E_iret dX8_sortOf_68 rfl rfl rfl
    · replace hf := inegE hf h53
      refine R_iload_n dX8_sortOf_56 rfl rfl ?_
      refine R_bipush dX8_sortOf_57 (v := 126) rfl ?_
      refine R_icmp_gt dX8_sortOf_59 rfl (fun h59 => ?_) (fun h59 => ?_)
      · replace hf := iposE hf h59
        refine R_bipush dX8_sortOf_66 (v := 6) rfl ?_
        cases hf; exact E_iret dX8_sortOf_68 rfl rfl rfl
      · replace hf := inegE hf h59
        refine R_iconst dX8_sortOf_62 (v := 4) rfl ?_
        refine R_goto dX8_sortOf_63 rfl ?_
        cases hf; exact E_iret dX8_sortOf_68 rfl rfl rfl
  · replace hf := iposE hf h45
    refine R_iconst dX8_sortOf_48 (v := 3) rfl ?_
    cases hf; exact E_iret dX8_sortOf_49 rfl rfl rfl
set_option maxRecDepth 20000 in
theorem rn_X8_sortOf_K28 {G : Gl} (v0 : Int) (M : Mem) (res : Int)  (hf : f_X8_sortOf_K28 v0 M = some res) : Run G false (rmD 0 0 0) miX8_sortOf (ZP G (some (aI res)) M) 0 0 28 [some (aI v0)] [] M := by
  unfold f_X8_sortOf_K28 at hf
  refine R_iload_n dX8_sortOf_28 rfl rfl ?_
  refine R_bipush dX8_sortOf_29 (v := 48) rfl ?_
  refine R_icmp_lt dX8_sortOf_31 rfl (fun h31 => ?_) (fun h31 => ?_)
  · replace hf := iposE hf h31
    exact R_subk (rn_X8_sortOf_K42 _ _ _  hf) ⟨rfl, trivial⟩
  · replace hf := inegE hf h31
    refine R_iload_n dX8_sortOf_34 rfl rfl ?_
    refine R_bipush dX8_sortOf_35 (v := 57) rfl ?_
    refine R_icmp_gt dX8_sortOf_37 rfl (fun h37 => ?_) (fun h37 => ?_)
    · replace hf := iposE hf h37
      exact R_subk (rn_X8_sortOf_K42 _ _ _  hf) ⟨rfl, trivial⟩
    · replace hf := inegE hf h37
      refine R_iconst dX8_sortOf_40 (v := 2) rfl ?_
      cases hf; exact E_iret dX8_sortOf_41 rfl rfl rfl
set_option maxRecDepth 20000 in
theorem ct_X8_sortOf {G : Gl} (v0 : Int) (M : Mem) {res : Int}  (hf : f_X8_sortOf v0 M = some res) : Ct G miX8_sortOf yX8_sortOf 0 [aI v0] M (some (aI res)) M := by
  refine Ct.of (L := [some (aI v0)]) mwX8_sortOf rfl trivial nle ⟨rfl, trivial⟩ ?_
  unfold f_X8_sortOf at hf
  refine R_iload_n dX8_sortOf_0 rfl rfl ?_
  refine R_bipush dX8_sortOf_1 (v := 32) rfl ?_
  refine R_icmp_eq dX8_sortOf_3 rfl (fun h3 => ?_) (fun h3 => ?_)
  · replace hf := iposE hf h3
    refine R_iconst dX8_sortOf_12 (v := 5) rfl ?_
    cases hf; exact E_iret dX8_sortOf_13 rfl rfl rfl
  · replace hf := inegE hf h3
    refine R_iload_n dX8_sortOf_6 rfl rfl ?_
    refine R_bipush dX8_sortOf_7 (v := 10) rfl ?_
    refine R_icmp_ne dX8_sortOf_9 rfl (fun h9 => ?_) (fun h9 => ?_)
    · replace hf := inegE hf h9
      refine R_iload_n dX8_sortOf_14 rfl rfl ?_
      refine R_bipush dX8_sortOf_15 (v := 97) rfl ?_
      refine R_icmp_lt dX8_sortOf_17 rfl (fun h17 => ?_) (fun h17 => ?_)
      · replace hf := iposE hf h17
        exact R_subk (rn_X8_sortOf_K28 _ _ _  hf) ⟨rfl, trivial⟩
      · replace hf := inegE hf h17
        refine R_iload_n dX8_sortOf_20 rfl rfl ?_
        refine R_bipush dX8_sortOf_21 (v := 122) rfl ?_
        refine R_icmp_gt dX8_sortOf_23 rfl (fun h23 => ?_) (fun h23 => ?_)
        · replace hf := iposE hf h23
          exact R_subk (rn_X8_sortOf_K28 _ _ _  hf) ⟨rfl, trivial⟩
        · replace hf := inegE hf h23
          refine R_iconst dX8_sortOf_26 (v := 1) rfl ?_
          cases hf; exact E_iret dX8_sortOf_27 rfl rfl rfl
    · replace hf := iposE hf h9
      refine R_iconst dX8_sortOf_12 (v := 5) rfl ?_
      cases hf; exact E_iret dX8_sortOf_13 rfl rfl rfl
/-! BracketHall$Tokens.longest()I -/
def f_X8_longest  (M : Mem) : Option (Int) :=
  if (M 3 4) = 1 then
    some 7
  else if (M 3 4) = 2 then
    some 3
  else if (M 3 4) = 3 then
    some 1
  else if (M 3 4) = 4 then
    some 2
  else
    some 1
set_option maxRecDepth 20000 in
theorem ct_X8_longest {G : Gl}  (M : Mem) {res : Int}  (hf : f_X8_longest  M = some res) : Ct G miX8_longest yX8_longest 0 [aR 3] M (some (aI res)) M := by
  refine Ct.of (L := [some (aR 3)]) mwX8_longest rfl trivial nle ⟨rfl, trivial⟩ ?_
  unfold f_X8_longest at hf
  refine R_aload_n dX8_longest_0 rfl rfl ?_
  refine R_getI (ki := 4) dX8_longest_1 cl8 flX8_21 o_3 ff8_4 rfl rfl ?_
  by_cases h4_0 : (M 3 4) = 1
  · replace hf := iposE hf h4_0
    refine R_switchIn dX8_longest_4 (by omega) (by omega) (by rw [h4_0]; rfl) rfl ?_
    refine R_bipush dX8_longest_36 (v := 7) rfl ?_
    cases hf; exact E_iret dX8_longest_38 rfl rfl rfl
  replace hf := inegE hf h4_0
  by_cases h4_1 : (M 3 4) = 2
  · replace hf := iposE hf h4_1
    refine R_switchIn dX8_longest_4 (by omega) (by omega) (by rw [h4_1]; rfl) rfl ?_
    refine R_iconst dX8_longest_39 (v := 3) rfl ?_
    cases hf; exact E_iret dX8_longest_40 rfl rfl rfl
  replace hf := inegE hf h4_1
  by_cases h4_2 : (M 3 4) = 3
  · replace hf := iposE hf h4_2
    refine R_switchIn dX8_longest_4 (by omega) (by omega) (by rw [h4_2]; rfl) rfl ?_
    refine R_iconst dX8_longest_43 (v := 1) rfl ?_
    cases hf; exact E_iret dX8_longest_44 rfl rfl rfl
  replace hf := inegE hf h4_2
  by_cases h4_3 : (M 3 4) = 4
  · replace hf := iposE hf h4_3
    refine R_switchIn dX8_longest_4 (by omega) (by omega) (by rw [h4_3]; rfl) rfl ?_
    refine R_iconst dX8_longest_41 (v := 2) rfl ?_
    cases hf; exact E_iret dX8_longest_42 rfl rfl rfl
  replace hf := inegE hf h4_3
  refine R_switchOut dX8_longest_4 (by omega) rfl ?_
  refine R_iconst dX8_longest_43 (v := 1) rfl ?_
  cases hf; exact E_iret dX8_longest_44 rfl rfl rfl
/-! BracketHall$Tokens.moveOn()V -/
def f_X8_moveOn_K156  (M : Mem) : Option (Mem) :=
  (f_X8_longest M).bind fun p166 =>
  if (w32 ((M 3 3) - (M 3 2))) ≤ p166 then
    some M
  else
    lt1 (up M 3 4 6) fun M175 =>
    some M175
def f_X8_moveOn_L103 : Nat → Mem → Option (Mem)
  | 0, _ => none
  | n + 1, M =>
    if (M 3 1) ≤ (M 3 3) then
      f_X8_moveOn_K156 M
    else
      (f_X8_longest M).bind fun p115 =>
      if p115 ≤ 1 then
        f_X8_moveOn_K156 M
      else
        (f_X1_byteAt (M 3 3) M).bind fun p130 =>
        (f_X8_sortOf p130 M).bind fun p133 =>
        if p133 = (M 3 4) then
          lt1 (up M 3 3 (w32 ((M 3 3) + 1))) fun M150 =>
          f_X8_moveOn_L103 n M150
        else
          f_X8_moveOn_K156 M
def f_X8_moveOn_K50  (M : Mem) : Option (Mem) :=
  lt1 (up M 3 3 (M 3 2)) fun M55 =>
  if (M55 3 2) < (M55 3 1) then
    (f_X1_byteAt (M55 3 2) M55).bind fun p84 =>
    (f_X8_sortOf p84 M55).bind fun p87 =>
    lt1 (up M55 3 4 p87) fun M90 =>
    lt1 (up M90 3 3 (w32 ((M90 3 3) + 1))) fun M100 =>
    f_X8_moveOn_L103 4096 M100
  else
    lt1 (up M55 3 4 0) fun M71 =>
    some M71
def f_X8_moveOn_L8 : Nat → Mem → Option (Mem)
  | 0, _ => none
  | n + 1, M =>
    if (M 3 1) ≤ (M 3 2) then
      f_X8_moveOn_K50 M
    else
      (f_X1_byteAt (M 3 2) M).bind fun p27 =>
      (f_X8_sortOf p27 M).bind fun p30 =>
      if p30 = 5 then
        lt1 (up M 3 2 (w32 ((M 3 2) + 1))) fun M44 =>
        f_X8_moveOn_L8 n M44
      else
        f_X8_moveOn_K50 M
def f_X8_moveOn  (M : Mem) : Option (Mem) :=
  lt1 (up M 3 2 (M 3 3)) fun M5 =>
  f_X8_moveOn_L8 4096 M5
set_option maxRecDepth 20000 in
theorem rn_X8_moveOn_K156 {G : Gl}  (M : Mem) (res : Mem)  (hf : f_X8_moveOn_K156  M = some res) : Run G false (rmD 1 0 0) miX8_moveOn (ZP G none res) 0 0 156 [some (aR 3)] [] M := by
  unfold f_X8_moveOn_K156 at hf
  refine R_aload_n dX8_moveOn_156 rfl rfl ?_
  refine R_getI (ki := 3) dX8_moveOn_157 cl8 flX8_18 o_3 ff8_3 rfl rfl ?_
  refine R_aload_n dX8_moveOn_160 rfl rfl ?_
  refine R_getI (ki := 2) dX8_moveOn_161 cl8 flX8_15 o_3 ff8_2 rfl rfl ?_
  refine R_isub dX8_moveOn_164 rfl ?_
  refine R_aload_n dX8_moveOn_165 rfl rfl ?_
  obtain ⟨p166, hp166, hf⟩ := bdE hf
  refine R_callV (As := []) (st := [aI (w32 ((M 3 3) - (M 3 2)))]) dX8_moveOn_166 (ct_X8_longest  _  hp166) mwX8_longest mvX8_longest mlX8_40 cl8 o_3 rfl rfl ⟨nle, nle, nle, nle⟩ nle rfl ?_
  refine R_icmp_le dX8_moveOn_169 rfl (fun h169 => ?_) (fun h169 => ?_)
  · replace hf := iposE hf h169
    cases hf; exact E_vret dX8_moveOn_178 rfl rfl rfl
  · replace hf := inegE hf h169
    refine R_aload_n dX8_moveOn_172 rfl rfl ?_
    refine R_bipush dX8_moveOn_173 (v := 6) rfl ?_
    obtain ⟨M175, hM175, hf⟩ := ltE hf
    refine R_put (ki := 4) dX8_moveOn_175 cl8 flX8_21 o_3 (Or.inl fz8_4) rfl hM175 ?_
    cases hf; exact E_vret dX8_moveOn_178 rfl rfl rfl
set_option maxRecDepth 20000 in
theorem rn_X8_moveOn_L103 {G : Gl} : ∀ (n : Nat)  (M : Mem) (res : Mem),  f_X8_moveOn_L103 n  M = some res → Run G false (rmD 1 0 0) miX8_moveOn (ZP G none res) 0 0 103 [some (aR 3)] [] M := by
  intro n
  induction n with
  | zero => intro  M res  hf; cases hf
  | succ n ih =>
    intro  M res  hf
    rw [f_X8_moveOn_L103] at hf
    refine R_aload_n dX8_moveOn_103 rfl rfl ?_
    refine R_getI (ki := 3) dX8_moveOn_104 cl8 flX8_18 o_3 ff8_3 rfl rfl ?_
    refine R_aload_n dX8_moveOn_107 rfl rfl ?_
    refine R_getI (ki := 1) dX8_moveOn_108 cl8 flX8_9 o_3 ff8_1 rfl rfl ?_
    refine R_icmp_ge dX8_moveOn_111 rfl (fun h111 => ?_) (fun h111 => ?_)
    · replace hf := iposE hf h111
      exact R_subk (rn_X8_moveOn_K156  _ _  hf) ⟨rfl, trivial⟩
    · replace hf := inegE hf h111
      refine R_aload_n dX8_moveOn_114 rfl rfl ?_
      obtain ⟨p115, hp115, hf⟩ := bdE hf
      refine R_callV (As := []) (st := []) dX8_moveOn_115 (ct_X8_longest  _  hp115) mwX8_longest mvX8_longest mlX8_40 cl8 o_3 rfl rfl ⟨nle, nle, nle, nle⟩ nle rfl ?_
      refine R_iconst dX8_moveOn_118 (v := 1) rfl ?_
      refine R_icmp_le dX8_moveOn_119 rfl (fun h119 => ?_) (fun h119 => ?_)
      · replace hf := iposE hf h119
        exact R_subk (rn_X8_moveOn_K156  _ _  hf) ⟨rfl, trivial⟩
      · replace hf := inegE hf h119
        refine R_aload_n dX8_moveOn_122 rfl rfl ?_
        refine R_getR dX8_moveOn_123 cl8 flX8_24 o_3 ff8_0 (fr8_0 _) o_1.1 ?_
        refine R_aload_n dX8_moveOn_126 rfl rfl ?_
        refine R_getI (ki := 3) dX8_moveOn_127 cl8 flX8_18 o_3 ff8_3 rfl rfl ?_
        obtain ⟨p130, hp130, hf⟩ := bdE hf
        refine R_callV (As := [aI (M 3 3)]) (st := []) dX8_moveOn_130 (ct_X1_byteAt _ _  hp130) mwX1_byteAt mvX1_byteAt mlX8_31 cl1 o_1 rfl rfl ⟨nle, nle, nle, nle⟩ nle rfl ?_
        obtain ⟨p133, hp133, hf⟩ := bdE hf
        refine R_callS (As := [aI p130]) (st := []) dX8_moveOn_133 (ct_X8_sortOf _ _  hp133) mwX8_sortOf msX8_sortOf mlX8_37 rfl ⟨nle, nle, nle, nle⟩ nle rfl ?_
        refine R_aload_n dX8_moveOn_136 rfl rfl ?_
        refine R_getI (ki := 4) dX8_moveOn_137 cl8 flX8_21 o_3 ff8_4 rfl rfl ?_
        refine R_icmp_ne dX8_moveOn_140 rfl (fun h140 => ?_) (fun h140 => ?_)
        · replace hf := inegE hf h140
          exact R_subk (rn_X8_moveOn_K156  _ _  hf) ⟨rfl, trivial⟩
        · replace hf := iposE hf h140
          refine R_aload_n dX8_moveOn_143 rfl rfl ?_
          refine R_dupR dX8_moveOn_144 ?_
          refine R_getI (ki := 3) dX8_moveOn_145 cl8 flX8_18 o_3 ff8_3 rfl rfl ?_
          refine R_iconst dX8_moveOn_148 (v := 1) rfl ?_
          refine R_iadd dX8_moveOn_149 rfl ?_
          obtain ⟨M150, hM150, hf⟩ := ltE hf
          refine R_put (ki := 3) dX8_moveOn_150 cl8 flX8_18 o_3 (Or.inl fz8_3) rfl hM150 ?_
          refine R_goto dX8_moveOn_153 rfl ?_
          exact R_subk (ih  _ _  hf) ⟨rfl, trivial⟩
set_option maxRecDepth 20000 in
theorem rn_X8_moveOn_K50 {G : Gl}  (M : Mem) (res : Mem)  (hf : f_X8_moveOn_K50  M = some res) : Run G false (rmD 1 0 0) miX8_moveOn (ZP G none res) 0 0 50 [some (aR 3)] [] M := by
  unfold f_X8_moveOn_K50 at hf
  refine R_aload_n dX8_moveOn_50 rfl rfl ?_
  refine R_aload_n dX8_moveOn_51 rfl rfl ?_
  refine R_getI (ki := 2) dX8_moveOn_52 cl8 flX8_15 o_3 ff8_2 rfl rfl ?_
  obtain ⟨M55, hM55, hf⟩ := ltE hf
  refine R_put (ki := 3) dX8_moveOn_55 cl8 flX8_18 o_3 (Or.inl fz8_3) rfl hM55 ?_
  refine R_aload_n dX8_moveOn_58 rfl rfl ?_
  refine R_getI (ki := 2) dX8_moveOn_59 cl8 flX8_15 o_3 ff8_2 rfl rfl ?_
  refine R_aload_n dX8_moveOn_62 rfl rfl ?_
  refine R_getI (ki := 1) dX8_moveOn_63 cl8 flX8_9 o_3 ff8_1 rfl rfl ?_
  refine R_icmp_lt dX8_moveOn_66 rfl (fun h66 => ?_) (fun h66 => ?_)
  · replace hf := iposE hf h66
    refine R_aload_n dX8_moveOn_75 rfl rfl ?_
    refine R_aload_n dX8_moveOn_76 rfl rfl ?_
    refine R_getR dX8_moveOn_77 cl8 flX8_24 o_3 ff8_0 (fr8_0 _) o_1.1 ?_
    refine R_aload_n dX8_moveOn_80 rfl rfl ?_
    refine R_getI (ki := 2) dX8_moveOn_81 cl8 flX8_15 o_3 ff8_2 rfl rfl ?_
    obtain ⟨p84, hp84, hf⟩ := bdE hf
    refine R_callV (As := [aI (M55 3 2)]) (st := [aR 3]) dX8_moveOn_84 (ct_X1_byteAt _ _  hp84) mwX1_byteAt mvX1_byteAt mlX8_31 cl1 o_1 rfl rfl ⟨nle, nle, nle, nle⟩ nle rfl ?_
    obtain ⟨p87, hp87, hf⟩ := bdE hf
    refine R_callS (As := [aI p84]) (st := [aR 3]) dX8_moveOn_87 (ct_X8_sortOf _ _  hp87) mwX8_sortOf msX8_sortOf mlX8_37 rfl ⟨nle, nle, nle, nle⟩ nle rfl ?_
    obtain ⟨M90, hM90, hf⟩ := ltE hf
    refine R_put (ki := 4) dX8_moveOn_90 cl8 flX8_21 o_3 (Or.inl fz8_4) rfl hM90 ?_
    refine R_aload_n dX8_moveOn_93 rfl rfl ?_
    refine R_dupR dX8_moveOn_94 ?_
    refine R_getI (ki := 3) dX8_moveOn_95 cl8 flX8_18 o_3 ff8_3 rfl rfl ?_
    refine R_iconst dX8_moveOn_98 (v := 1) rfl ?_
    refine R_iadd dX8_moveOn_99 rfl ?_
    obtain ⟨M100, hM100, hf⟩ := ltE hf
    refine R_put (ki := 3) dX8_moveOn_100 cl8 flX8_18 o_3 (Or.inl fz8_3) rfl hM100 ?_
    exact R_subk (rn_X8_moveOn_L103 4096  _ _  hf) ⟨rfl, trivial⟩
  · replace hf := inegE hf h66
    refine R_aload_n dX8_moveOn_69 rfl rfl ?_
    refine R_iconst dX8_moveOn_70 (v := 0) rfl ?_
    obtain ⟨M71, hM71, hf⟩ := ltE hf
    refine R_put (ki := 4) dX8_moveOn_71 cl8 flX8_21 o_3 (Or.inl fz8_4) rfl hM71 ?_
    cases hf; exact E_vret dX8_moveOn_74 rfl rfl rfl
set_option maxRecDepth 20000 in
theorem rn_X8_moveOn_L8 {G : Gl} : ∀ (n : Nat)  (M : Mem) (res : Mem),  f_X8_moveOn_L8 n  M = some res → Run G false (rmD 1 0 0) miX8_moveOn (ZP G none res) 0 0 8 [some (aR 3)] [] M := by
  intro n
  induction n with
  | zero => intro  M res  hf; cases hf
  | succ n ih =>
    intro  M res  hf
    rw [f_X8_moveOn_L8] at hf
    refine R_aload_n dX8_moveOn_8 rfl rfl ?_
    refine R_getI (ki := 2) dX8_moveOn_9 cl8 flX8_15 o_3 ff8_2 rfl rfl ?_
    refine R_aload_n dX8_moveOn_12 rfl rfl ?_
    refine R_getI (ki := 1) dX8_moveOn_13 cl8 flX8_9 o_3 ff8_1 rfl rfl ?_
    refine R_icmp_ge dX8_moveOn_16 rfl (fun h16 => ?_) (fun h16 => ?_)
    · replace hf := iposE hf h16
      exact R_subk (rn_X8_moveOn_K50  _ _  hf) ⟨rfl, trivial⟩
    · replace hf := inegE hf h16
      refine R_aload_n dX8_moveOn_19 rfl rfl ?_
      refine R_getR dX8_moveOn_20 cl8 flX8_24 o_3 ff8_0 (fr8_0 _) o_1.1 ?_
      refine R_aload_n dX8_moveOn_23 rfl rfl ?_
      refine R_getI (ki := 2) dX8_moveOn_24 cl8 flX8_15 o_3 ff8_2 rfl rfl ?_
      obtain ⟨p27, hp27, hf⟩ := bdE hf
      refine R_callV (As := [aI (M 3 2)]) (st := []) dX8_moveOn_27 (ct_X1_byteAt _ _  hp27) mwX1_byteAt mvX1_byteAt mlX8_31 cl1 o_1 rfl rfl ⟨nle, nle, nle, nle⟩ nle rfl ?_
      obtain ⟨p30, hp30, hf⟩ := bdE hf
      refine R_callS (As := [aI p27]) (st := []) dX8_moveOn_30 (ct_X8_sortOf _ _  hp30) mwX8_sortOf msX8_sortOf mlX8_37 rfl ⟨nle, nle, nle, nle⟩ nle rfl ?_
      refine R_iconst dX8_moveOn_33 (v := 5) rfl ?_
      refine R_icmp_ne dX8_moveOn_34 rfl (fun h34 => ?_) (fun h34 => ?_)
      · replace hf := inegE hf h34
        exact R_subk (rn_X8_moveOn_K50  _ _  hf) ⟨rfl, trivial⟩
      · replace hf := iposE hf h34
        refine R_aload_n dX8_moveOn_37 rfl rfl ?_
        refine R_dupR dX8_moveOn_38 ?_
        refine R_getI (ki := 2) dX8_moveOn_39 cl8 flX8_15 o_3 ff8_2 rfl rfl ?_
        refine R_iconst dX8_moveOn_42 (v := 1) rfl ?_
        refine R_iadd dX8_moveOn_43 rfl ?_
        obtain ⟨M44, hM44, hf⟩ := ltE hf
        refine R_put (ki := 2) dX8_moveOn_44 cl8 flX8_15 o_3 (Or.inl fz8_2) rfl hM44 ?_
        refine R_goto dX8_moveOn_47 rfl ?_
        exact R_subk (ih  _ _  hf) ⟨rfl, trivial⟩
set_option maxRecDepth 20000 in
theorem ct_X8_moveOn {G : Gl}  (M : Mem) {res : Mem}  (hf : f_X8_moveOn  M = some res) : Ct G miX8_moveOn yX8_moveOn 1 [aR 3] M none res := by
  refine Ct.of (L := [some (aR 3)]) mwX8_moveOn rfl trivial nle ⟨rfl, trivial⟩ ?_
  unfold f_X8_moveOn at hf
  refine R_aload_n dX8_moveOn_0 rfl rfl ?_
  refine R_aload_n dX8_moveOn_1 rfl rfl ?_
  refine R_getI (ki := 3) dX8_moveOn_2 cl8 flX8_18 o_3 ff8_3 rfl rfl ?_
  obtain ⟨M5, hM5, hf⟩ := ltE hf
  refine R_put (ki := 2) dX8_moveOn_5 cl8 flX8_15 o_3 (Or.inl fz8_2) rfl hM5 ?_
  exact R_subk (rn_X8_moveOn_L8 4096  _ _  hf) ⟨rfl, trivial⟩
/-! BracketHall$Orders.numbersOf(I)I -/
def f_X3_numbersOf (v0 : Int) (M : Mem) : Option (Int) :=
  if v0 = 3 then
    some 3
  else if v0 = 4 then
    some 0
  else if v0 = 5 then
    some 1
  else
    some 2
set_option maxRecDepth 20000 in
theorem ct_X3_numbersOf {G : Gl} (v0 : Int) (M : Mem) {res : Int}  (hf : f_X3_numbersOf v0 M = some res) : Ct G miX3_numbersOf yX3_numbersOf 0 [aI v0] M (some (aI res)) M := by
  refine Ct.of (L := [some (aI v0)]) mwX3_numbersOf rfl trivial nle ⟨rfl, trivial⟩ ?_
  unfold f_X3_numbersOf at hf
  refine R_iload_n dX3_numbersOf_0 rfl rfl ?_
  by_cases h1_0 : v0 = 3
  · replace hf := iposE hf h1_0
    refine R_switchIn dX3_numbersOf_1 (by omega) (by omega) (by rw [h1_0]; rfl) rfl ?_
    refine R_iconst dX3_numbersOf_28 (v := 3) rfl ?_
    cases hf; exact E_iret dX3_numbersOf_29 rfl rfl rfl
  replace hf := inegE hf h1_0
  by_cases h1_1 : v0 = 4
  · replace hf := iposE hf h1_1
    refine R_switchIn dX3_numbersOf_1 (by omega) (by omega) (by rw [h1_1]; rfl) rfl ?_
    refine R_iconst dX3_numbersOf_30 (v := 0) rfl ?_
    cases hf; exact E_iret dX3_numbersOf_31 rfl rfl rfl
  replace hf := inegE hf h1_1
  by_cases h1_2 : v0 = 5
  · replace hf := iposE hf h1_2
    refine R_switchIn dX3_numbersOf_1 (by omega) (by omega) (by rw [h1_2]; rfl) rfl ?_
    refine R_iconst dX3_numbersOf_32 (v := 1) rfl ?_
    cases hf; exact E_iret dX3_numbersOf_33 rfl rfl rfl
  replace hf := inegE hf h1_2
  refine R_switchOut dX3_numbersOf_1 (by omega) rfl ?_
  refine R_iconst dX3_numbersOf_34 (v := 2) rfl ?_
  cases hf; exact E_iret dX3_numbersOf_35 rfl rfl rfl
/-! BracketHall$Tokens.takeNumber(II)I -/
def f_X8_takeNumber_K51 (v1 : Int) (v2 : Int) (v3 : Int) (M : Mem) : Option (Int × Mem) :=
  if v3 < v1 then
    some ((-2), M)
  else
    if v3 ≤ v2 then
      (f_X8_moveOn M).bind fun p65 =>
      some (v3, p65)
    else
      some ((-2), M)
def f_X8_takeNumber_L18 : Nat → Int → Int → Int → Int → Mem → Option (Int × Mem)
  | 0, _, _, _, _, _ => none
  | n + 1, v1, v2, v3, v4, M =>
    if (M 3 3) ≤ v4 then
      f_X8_takeNumber_K51 v1 v2 v3 M
    else
      (f_X1_byteAt v4 M).bind fun p37 =>
      lt1 (w32 ((w32 ((w32 (10 * v3)) + p37)) - 48)) fun v3_44 =>
      lt1 (w32 (v4 + 1)) fun v4_45 =>
      f_X8_takeNumber_L18 n v1 v2 v3_44 v4_45 M
def f_X8_takeNumber (v1 : Int) (v2 : Int) (M : Mem) : Option (Int × Mem) :=
  if (M 3 4) = 2 then
    lt1 (M 3 2) fun v4_16 =>
    f_X8_takeNumber_L18 4096 v1 v2 0 v4_16 M
  else
    some ((-1), M)
set_option maxRecDepth 20000 in
theorem rn_X8_takeNumber_K51 {G : Gl} (v1 : Int) (v2 : Int) (v3 : Int) (M : Mem) (res : Int × Mem)  (hf : f_X8_takeNumber_K51 v1 v2 v3 M = some res) : Run G false (rmD 2 0 0) miX8_takeNumber (ZP G (some (aI res.1)) res.2) 0 0 51 [some (aR 3), some (aI v1), some (aI v2), some (aI v3), none] [] M := by
  unfold f_X8_takeNumber_K51 at hf
  refine R_iload_n dX8_takeNumber_51 rfl rfl ?_
  refine R_iload_n dX8_takeNumber_52 rfl rfl ?_
  refine R_icmp_lt dX8_takeNumber_53 rfl (fun h53 => ?_) (fun h53 => ?_)
  · replace hf := iposE hf h53
    refine R_bipush dX8_takeNumber_61 (v := (-2)) rfl ?_
    cases hf; exact E_iret dX8_takeNumber_63 rfl rfl rfl
  · replace hf := inegE hf h53
    refine R_iload_n dX8_takeNumber_56 rfl rfl ?_
    refine R_iload_n dX8_takeNumber_57 rfl rfl ?_
    refine R_icmp_le dX8_takeNumber_58 rfl (fun h58 => ?_) (fun h58 => ?_)
    · replace hf := iposE hf h58
      refine R_aload_n dX8_takeNumber_64 rfl rfl ?_
      obtain ⟨p65, hp65, hf⟩ := bdE hf
      refine R_callV (As := []) (st := []) dX8_takeNumber_65 (ct_X8_moveOn  _  hp65) mwX8_moveOn mvX8_moveOn mlX8_28 cl8 o_3 rfl rfl ⟨nle, nle, nle, nle⟩ nle rfl ?_
      refine R_iload_n dX8_takeNumber_68 rfl rfl ?_
      cases hf; exact E_iret dX8_takeNumber_69 rfl rfl rfl
    · replace hf := inegE hf h58
      refine R_bipush dX8_takeNumber_61 (v := (-2)) rfl ?_
      cases hf; exact E_iret dX8_takeNumber_63 rfl rfl rfl
set_option maxRecDepth 20000 in
theorem rn_X8_takeNumber_L18 {G : Gl} : ∀ (n : Nat) (v1 : Int) (v2 : Int) (v3 : Int) (v4 : Int) (M : Mem) (res : Int × Mem),  f_X8_takeNumber_L18 n v1 v2 v3 v4 M = some res → Run G false (rmD 2 0 0) miX8_takeNumber (ZP G (some (aI res.1)) res.2) 0 0 18 [some (aR 3), some (aI v1), some (aI v2), some (aI v3), some (aI v4)] [] M := by
  intro n
  induction n with
  | zero => intro v1 v2 v3 v4 M res  hf; cases hf
  | succ n ih =>
    intro v1 v2 v3 v4 M res  hf
    rw [f_X8_takeNumber_L18] at hf
    refine R_iload dX8_takeNumber_18 rfl ?_
    refine R_aload_n dX8_takeNumber_20 rfl rfl ?_
    refine R_getI (ki := 3) dX8_takeNumber_21 cl8 flX8_18 o_3 ff8_3 rfl rfl ?_
    refine R_icmp_ge dX8_takeNumber_24 rfl (fun h24 => ?_) (fun h24 => ?_)
    · replace hf := iposE hf h24
      exact R_subk (rn_X8_takeNumber_K51 _ _ _ _ _  hf) ⟨rfl, rfl, rfl, rfl, trivial⟩
    · replace hf := inegE hf h24
      refine R_bipush dX8_takeNumber_27 (v := 10) rfl ?_
      refine R_iload_n dX8_takeNumber_29 rfl rfl ?_
      refine R_imul dX8_takeNumber_30 rfl ?_
      refine R_aload_n dX8_takeNumber_31 rfl rfl ?_
      refine R_getR dX8_takeNumber_32 cl8 flX8_24 o_3 ff8_0 (fr8_0 _) o_1.1 ?_
      refine R_iload dX8_takeNumber_35 rfl ?_
      obtain ⟨p37, hp37, hf⟩ := bdE hf
      refine R_callV (As := [aI v4]) (st := [aI (w32 (10 * v3))]) dX8_takeNumber_37 (ct_X1_byteAt _ _  hp37) mwX1_byteAt mvX1_byteAt mlX8_31 cl1 o_1 rfl rfl ⟨nle, nle, nle, nle⟩ nle rfl ?_
      refine R_iadd dX8_takeNumber_40 rfl ?_
      refine R_bipush dX8_takeNumber_41 (v := 48) rfl ?_
      refine R_isub dX8_takeNumber_43 rfl ?_
      obtain ⟨v3_44, hv3_44, hf⟩ := ltE hf
      refine R_istore_n dX8_takeNumber_44 rfl (by decide) hv3_44 rfl ?_
      obtain ⟨v4_45, hv4_45, hf⟩ := ltE hf
      refine R_iinc dX8_takeNumber_45 rfl rfl hv4_45 (by decide) rfl ?_
      refine R_goto dX8_takeNumber_48 rfl ?_
      exact R_subk (ih _ _ _ _ _ _  hf) ⟨rfl, rfl, rfl, rfl, rfl, trivial⟩
set_option maxRecDepth 20000 in
theorem ct_X8_takeNumber {G : Gl} (v1 : Int) (v2 : Int) (M : Mem) {res : Int × Mem}  (hf : f_X8_takeNumber v1 v2 M = some res) : Ct G miX8_takeNumber yX8_takeNumber 2 [aR 3, aI v1, aI v2] M (some (aI res.1)) res.2 := by
  refine Ct.of (L := [some (aR 3), some (aI v1), some (aI v2), none, none]) mwX8_takeNumber rfl trivial nle ⟨rfl, rfl, rfl, trivial⟩ ?_
  unfold f_X8_takeNumber at hf
  refine R_aload_n dX8_takeNumber_0 rfl rfl ?_
  refine R_getI (ki := 4) dX8_takeNumber_1 cl8 flX8_21 o_3 ff8_4 rfl rfl ?_
  refine R_iconst dX8_takeNumber_4 (v := 2) rfl ?_
  refine R_icmp_eq dX8_takeNumber_5 rfl (fun h5 => ?_) (fun h5 => ?_)
  · replace hf := iposE hf h5
    refine R_iconst dX8_takeNumber_10 (v := 0) rfl ?_
    refine R_istore_n dX8_takeNumber_11 rfl (by decide) rfl rfl ?_
    refine R_aload_n dX8_takeNumber_12 rfl rfl ?_
    refine R_getI (ki := 2) dX8_takeNumber_13 cl8 flX8_15 o_3 ff8_2 rfl rfl ?_
    obtain ⟨v4_16, hv4_16, hf⟩ := ltE hf
    refine R_istore dX8_takeNumber_16 (by decide) hv4_16 rfl ?_
    exact R_subk (rn_X8_takeNumber_L18 4096 _ _ _ _ _ _  hf) ⟨rfl, rfl, rfl, rfl, rfl, trivial⟩
  · replace hf := inegE hf h5
    refine R_iconst dX8_takeNumber_8 (v := (-1)) rfl ?_
    cases hf; exact E_iret dX8_takeNumber_9 rfl rfl rfl
/-! BracketHall$Tokens.passSemicolon()I -/
def f_X8_passSemicolon  (M : Mem) : Option (Int × Mem) :=
  if (M 3 4) = 3 then
    (f_X8_moveOn M).bind fun p11 =>
    some (0, p11)
  else
    some (1, M)
set_option maxRecDepth 20000 in
theorem ct_X8_passSemicolon {G : Gl}  (M : Mem) {res : Int × Mem}  (hf : f_X8_passSemicolon  M = some res) : Ct G miX8_passSemicolon yX8_passSemicolon 2 [aR 3] M (some (aI res.1)) res.2 := by
  refine Ct.of (L := [some (aR 3)]) mwX8_passSemicolon rfl trivial nle ⟨rfl, trivial⟩ ?_
  unfold f_X8_passSemicolon at hf
  refine R_aload_n dX8_passSemicolon_0 rfl rfl ?_
  refine R_getI (ki := 4) dX8_passSemicolon_1 cl8 flX8_21 o_3 ff8_4 rfl rfl ?_
  refine R_iconst dX8_passSemicolon_4 (v := 3) rfl ?_
  refine R_icmp_eq dX8_passSemicolon_5 rfl (fun h5 => ?_) (fun h5 => ?_)
  · replace hf := iposE hf h5
    refine R_aload_n dX8_passSemicolon_10 rfl rfl ?_
    obtain ⟨p11, hp11, hf⟩ := bdE hf
    refine R_callV (As := []) (st := []) dX8_passSemicolon_11 (ct_X8_moveOn  _  hp11) mwX8_moveOn mvX8_moveOn mlX8_28 cl8 o_3 rfl rfl ⟨nle, nle, nle, nle⟩ nle rfl ?_
    refine R_iconst dX8_passSemicolon_14 (v := 0) rfl ?_
    cases hf; exact E_iret dX8_passSemicolon_15 rfl rfl rfl
  · replace hf := inegE hf h5
    refine R_iconst dX8_passSemicolon_8 (v := 1) rfl ?_
    cases hf; exact E_iret dX8_passSemicolon_9 rfl rfl rfl
/-! BracketHall$Orders.parseStatement(LBracketHall$Tokens;I)I -/
def f_X3_parseStatement_L36 : Nat → Int → Int → Int → Mem → Option (Int × Mem)
  | 0, _, _, _, _ => none
  | n + 1, v2, v3, v4, M =>
    (f_X3_numbersOf v3 M).bind fun p39 =>
    if p39 ≤ v4 then
      (f_X8_passSemicolon M).bind fun p90 =>
      some (p90.1, p90.2)
    else
      if 3 ≤ v4 then
        (f_X8_passSemicolon M).bind fun p90 =>
        some (p90.1, p90.2)
      else
        (f_X8_takeNumber 0 999 M).bind fun p56 =>
        lt1 (p56.1) fun v5_59 =>
        if 0 ≤ v5_59 then
          if (0 : Int) ≤ w32 ((w32 (v2 * 3)) + v4) ∧ w32 ((w32 (v2 * 3)) + v4) < 300 then
          lt1 (up p56.2 10 (w32 ((w32 (v2 * 3)) + v4)) v5_59) fun M82 =>
          lt1 (w32 (v4 + 1)) fun v4_83 =>
          f_X3_parseStatement_L36 n v2 v3 v4_83 M82
          else none
        else
          some (w32 (-v5_59), p56.2)
def f_X3_parseStatement (v2 : Int) (M : Mem) : Option (Int × Mem) :=
  (f_X3_verbIn M).bind fun p1 =>
  if p1 = (-1) then
    some (1, M)
  else
    if v2 < 0 then
      some (1, M)
    else
      if v2 < 100 then
        if (0 : Int) ≤ v2 ∧ v2 < 100 then
        lt1 (up M 9 v2 p1) fun M28 =>
        (f_X8_moveOn M28).bind fun p30 =>
        f_X3_parseStatement_L36 4096 v2 p1 0 p30
        else none
      else
        some (1, M)
set_option maxRecDepth 20000 in
theorem rn_X3_parseStatement_L36 {G : Gl} : ∀ (n : Nat) (v2 : Int) (v3 : Int) (v4 : Int) (M : Mem) (res : Int × Mem),  f_X3_parseStatement_L36 n v2 v3 v4 M = some res → Run G false (rmD 6 0 0) miX3_parseStatement (ZP G (some (aI res.1)) res.2) 0 0 36 [some (aR 8), some (aR 3), some (aI v2), some (aI v3), some (aI v4), none] [] M := by
  intro n
  induction n with
  | zero => intro v2 v3 v4 M res  hf; cases hf
  | succ n ih =>
    intro v2 v3 v4 M res  hf
    rw [f_X3_parseStatement_L36] at hf
    refine R_iload dX3_parseStatement_36 rfl ?_
    refine R_iload_n dX3_parseStatement_38 rfl rfl ?_
    obtain ⟨p39, hp39, hf⟩ := bdE hf
    refine R_callS (As := [aI v3]) (st := [aI v4]) dX3_parseStatement_39 (ct_X3_numbersOf _ _  hp39) mwX3_numbersOf msX3_numbersOf mlX3_39 rfl ⟨nle, nle, nle, nle⟩ nle rfl ?_
    refine R_icmp_ge dX3_parseStatement_42 rfl (fun h42 => ?_) (fun h42 => ?_)
    · replace hf := iposE hf h42
      refine R_aload_n dX3_parseStatement_89 rfl rfl ?_
      obtain ⟨p90, hp90, hf⟩ := bdE hf
      refine R_callV (As := []) (st := []) dX3_parseStatement_90 (ct_X8_passSemicolon  _  hp90) mwX8_passSemicolon mvX8_passSemicolon mlX3_47 cl8 o_3 rfl rfl ⟨nle, nle, nle, nle⟩ nle rfl ?_
      cases hf; exact E_iret dX3_parseStatement_93 rfl rfl rfl
    · replace hf := inegE hf h42
      refine R_iload dX3_parseStatement_45 rfl ?_
      refine R_iconst dX3_parseStatement_47 (v := 3) rfl ?_
      refine R_icmp_ge dX3_parseStatement_48 rfl (fun h48 => ?_) (fun h48 => ?_)
      · replace hf := iposE hf h48
        refine R_aload_n dX3_parseStatement_89 rfl rfl ?_
        obtain ⟨p90, hp90, hf⟩ := bdE hf
        refine R_callV (As := []) (st := []) dX3_parseStatement_90 (ct_X8_passSemicolon  _  hp90) mwX8_passSemicolon mvX8_passSemicolon mlX3_47 cl8 o_3 rfl rfl ⟨nle, nle, nle, nle⟩ nle rfl ?_
        cases hf; exact E_iret dX3_parseStatement_93 rfl rfl rfl
      · replace hf := inegE hf h48
        refine R_aload_n dX3_parseStatement_51 rfl rfl ?_
        refine R_iconst dX3_parseStatement_52 (v := 0) rfl ?_
        refine R_sipush dX3_parseStatement_53 (v := 999) rfl ?_
        obtain ⟨p56, hp56, hf⟩ := bdE hf
        refine R_callV (As := [aI 0, aI 999]) (st := []) dX3_parseStatement_56 (ct_X8_takeNumber _ _ _  hp56) mwX8_takeNumber mvX8_takeNumber mlX3_43 cl8 o_3 rfl rfl ⟨nle, nle, nle, nle⟩ nle rfl ?_
        obtain ⟨v5_59, hv5_59, hf⟩ := ltE hf
        refine R_istore dX3_parseStatement_59 (by decide) hv5_59 rfl ?_
        refine R_iload dX3_parseStatement_61 rfl ?_
        refine R_if_ge dX3_parseStatement_63 rfl (fun h63 => ?_) (fun h63 => ?_)
        · replace hf := iposE hf h63
          refine R_aload_n dX3_parseStatement_70 rfl rfl ?_
          refine R_getR dX3_parseStatement_71 cl3 flX3_15 o_8 ff3_1 (fr3_1 _) a_10.1 ?_
          refine R_iload_n dX3_parseStatement_74 rfl rfl ?_
          refine R_iconst dX3_parseStatement_75 (v := 3) rfl ?_
          refine R_imul dX3_parseStatement_76 rfl ?_
          refine R_iload dX3_parseStatement_77 rfl ?_
          refine R_iadd dX3_parseStatement_79 rfl ?_
          refine R_iload dX3_parseStatement_80 rfl ?_
          obtain ⟨hg1, hf⟩ := gdE hf
          obtain ⟨M82, hM82, hf⟩ := ltE hf
          refine R_iastore dX3_parseStatement_82 a_10 hg1.1 hg1.2 hM82 ?_
          obtain ⟨v4_83, hv4_83, hf⟩ := ltE hf
          refine R_iinc dX3_parseStatement_83 rfl rfl hv4_83 (by decide) rfl ?_
          refine R_goto dX3_parseStatement_86 rfl ?_
          exact R_subk (ih _ _ _ _ _  hf) ⟨rfl, rfl, rfl, rfl, rfl, trivial⟩
        · replace hf := inegE hf h63
          refine R_iload dX3_parseStatement_66 rfl ?_
          refine R_ineg dX3_parseStatement_68 rfl ?_
          cases hf; exact E_iret dX3_parseStatement_69 rfl rfl rfl
set_option maxRecDepth 20000 in
theorem ct_X3_parseStatement {G : Gl} (v2 : Int) (M : Mem) {res : Int × Mem}  (hf : f_X3_parseStatement v2 M = some res) : Ct G miX3_parseStatement yX3_parseStatement 6 [aR 8, aR 3, aI v2] M (some (aI res.1)) res.2 := by
  refine Ct.of (L := [some (aR 8), some (aR 3), some (aI v2), none, none, none]) mwX3_parseStatement rfl trivial nle ⟨rfl, rfl, rfl, trivial⟩ ?_
  unfold f_X3_parseStatement at hf
  refine R_aload_n dX3_parseStatement_0 rfl rfl ?_
  obtain ⟨p1, hp1, hf⟩ := bdE hf
  refine R_callS (As := [aR 3]) (st := []) dX3_parseStatement_1 (ct_X3_verbIn  _  hp1) mwX3_verbIn msX3_verbIn mlX3_32 rfl ⟨nle, nle, nle, nle⟩ nle rfl ?_
  refine R_istore_n dX3_parseStatement_4 rfl (by decide) rfl rfl ?_
  refine R_iload_n dX3_parseStatement_5 rfl rfl ?_
  refine R_iconst dX3_parseStatement_6 (v := (-1)) rfl ?_
  refine R_icmp_eq dX3_parseStatement_7 rfl (fun h7 => ?_) (fun h7 => ?_)
  · replace hf := iposE hf h7
    refine R_iconst dX3_parseStatement_20 (v := 1) rfl ?_
    cases hf; exact E_iret dX3_parseStatement_21 rfl rfl rfl
  · replace hf := inegE hf h7
    refine R_iload_n dX3_parseStatement_10 rfl rfl ?_
    refine R_if_lt dX3_parseStatement_11 rfl (fun h11 => ?_) (fun h11 => ?_)
    · replace hf := iposE hf h11
      refine R_iconst dX3_parseStatement_20 (v := 1) rfl ?_
      cases hf; exact E_iret dX3_parseStatement_21 rfl rfl rfl
    · replace hf := inegE hf h11
      refine R_iload_n dX3_parseStatement_14 rfl rfl ?_
      refine R_bipush dX3_parseStatement_15 (v := 100) rfl ?_
      refine R_icmp_lt dX3_parseStatement_17 rfl (fun h17 => ?_) (fun h17 => ?_)
      · replace hf := iposE hf h17
        refine R_aload_n dX3_parseStatement_22 rfl rfl ?_
        refine R_getR dX3_parseStatement_23 cl3 flX3_11 o_8 ff3_0 (fr3_0 _) a_9.1 ?_
        refine R_iload_n dX3_parseStatement_26 rfl rfl ?_
        refine R_iload_n dX3_parseStatement_27 rfl rfl ?_
        obtain ⟨hg2, hf⟩ := gdE hf
        obtain ⟨M28, hM28, hf⟩ := ltE hf
        refine R_iastore dX3_parseStatement_28 a_9 hg2.1 hg2.2 hM28 ?_
        refine R_aload_n dX3_parseStatement_29 rfl rfl ?_
        obtain ⟨p30, hp30, hf⟩ := bdE hf
        refine R_callV (As := []) (st := []) dX3_parseStatement_30 (ct_X8_moveOn  _  hp30) mwX8_moveOn mvX8_moveOn mlX3_36 cl8 o_3 rfl rfl ⟨nle, nle, nle, nle⟩ nle rfl ?_
        refine R_iconst dX3_parseStatement_33 (v := 0) rfl ?_
        refine R_istore dX3_parseStatement_34 (by decide) rfl rfl ?_
        exact R_subk (rn_X3_parseStatement_L36 4096 _ _ _ _ _  hf) ⟨rfl, rfl, rfl, rfl, rfl, trivial⟩
      · replace hf := inegE hf h17
        refine R_iconst dX3_parseStatement_20 (v := 1) rfl ?_
        cases hf; exact E_iret dX3_parseStatement_21 rfl rfl rfl
/-! BracketHall$Orders.parse(LBracketHall$Tokens;)I -/
def f_X3_parse_L9 : Nat → Int → Int → Mem → Option (Int × Mem)
  | 0, _, _, _ => none
  | n + 1, v2, v3, M =>
    if 100 ≤ v3 then
      some (v2, M)
    else
      if v2 = 0 then
        (f_X8_isEnd M).bind fun p20 =>
        if p20 = 0 then
          (f_X3_parseStatement v3 M).bind fun p29 =>
          lt1 (p29.1) fun v2_32 =>
          lt1 (up p29.2 8 2 (w32 ((p29.2 8 2) + 1))) fun M40 =>
          lt1 (w32 (v3 + 1)) fun v3_43 =>
          f_X3_parse_L9 n v2_32 v3_43 M40
        else
          some (v2, M)
      else
        some (v2, M)
def f_X3_parse  (M : Mem) : Option (Int × Mem) :=
  lt1 (up M 8 2 0) fun M4 =>
  f_X3_parse_L9 4096 0 0 M4
set_option maxRecDepth 20000 in
theorem rn_X3_parse_L9 {G : Gl} : ∀ (n : Nat) (v2 : Int) (v3 : Int) (M : Mem) (res : Int × Mem),  f_X3_parse_L9 n v2 v3 M = some res → Run G false (rmD 7 0 0) miX3_parse (ZP G (some (aI res.1)) res.2) 0 0 9 [some (aR 8), some (aR 3), some (aI v2), some (aI v3)] [] M := by
  intro n
  induction n with
  | zero => intro v2 v3 M res  hf; cases hf
  | succ n ih =>
    intro v2 v3 M res  hf
    rw [f_X3_parse_L9] at hf
    refine R_iload_n dX3_parse_9 rfl rfl ?_
    refine R_bipush dX3_parse_10 (v := 100) rfl ?_
    refine R_icmp_ge dX3_parse_12 rfl (fun h12 => ?_) (fun h12 => ?_)
    · replace hf := iposE hf h12
      refine R_iload_n dX3_parse_49 rfl rfl ?_
      cases hf; exact E_iret dX3_parse_50 rfl rfl rfl
    · replace hf := inegE hf h12
      refine R_iload_n dX3_parse_15 rfl rfl ?_
      refine R_if_ne dX3_parse_16 rfl (fun h16 => ?_) (fun h16 => ?_)
      · replace hf := inegE hf h16
        refine R_iload_n dX3_parse_49 rfl rfl ?_
        cases hf; exact E_iret dX3_parse_50 rfl rfl rfl
      · replace hf := iposE hf h16
        refine R_aload_n dX3_parse_19 rfl rfl ?_
        obtain ⟨p20, hp20, hf⟩ := bdE hf
        refine R_callV (As := []) (st := []) dX3_parse_20 (ct_X8_isEnd  _  hp20) mwX8_isEnd mvX8_isEnd mlX3_22 cl8 o_3 rfl rfl ⟨nle, nle, nle, nle⟩ nle rfl ?_
        refine R_if_ne dX3_parse_23 rfl (fun h23 => ?_) (fun h23 => ?_)
        · replace hf := inegE hf h23
          refine R_iload_n dX3_parse_49 rfl rfl ?_
          cases hf; exact E_iret dX3_parse_50 rfl rfl rfl
        · replace hf := iposE hf h23
          refine R_aload_n dX3_parse_26 rfl rfl ?_
          refine R_aload_n dX3_parse_27 rfl rfl ?_
          refine R_iload_n dX3_parse_28 rfl rfl ?_
          obtain ⟨p29, hp29, hf⟩ := bdE hf
          refine R_callV (As := [aR 3, aI v3]) (st := []) dX3_parse_29 (ct_X3_parseStatement _ _  hp29) mwX3_parseStatement mvX3_parseStatement mlX3_28 cl3 o_8 rfl rfl ⟨nle, nle, nle, nle⟩ nle rfl ?_
          obtain ⟨v2_32, hv2_32, hf⟩ := ltE hf
          refine R_istore_n dX3_parse_32 rfl (by decide) hv2_32 rfl ?_
          refine R_aload_n dX3_parse_33 rfl rfl ?_
          refine R_dupR dX3_parse_34 ?_
          refine R_getI (ki := 2) dX3_parse_35 cl3 flX3_18 o_8 ff3_2 rfl rfl ?_
          refine R_iconst dX3_parse_38 (v := 1) rfl ?_
          refine R_iadd dX3_parse_39 rfl ?_
          obtain ⟨M40, hM40, hf⟩ := ltE hf
          refine R_put (ki := 2) dX3_parse_40 cl3 flX3_18 o_8 (Or.inl fz3_2) rfl hM40 ?_
          obtain ⟨v3_43, hv3_43, hf⟩ := ltE hf
          refine R_iinc dX3_parse_43 rfl rfl hv3_43 (by decide) rfl ?_
          refine R_goto dX3_parse_46 rfl ?_
          exact R_subk (ih _ _ _ _  hf) ⟨rfl, rfl, rfl, rfl, trivial⟩
set_option maxRecDepth 20000 in
theorem ct_X3_parse {G : Gl}  (M : Mem) {res : Int × Mem}  (hf : f_X3_parse  M = some res) : Ct G miX3_parse yX3_parse 7 [aR 8, aR 3] M (some (aI res.1)) res.2 := by
  refine Ct.of (L := [some (aR 8), some (aR 3), none, none]) mwX3_parse rfl trivial nle ⟨rfl, rfl, trivial⟩ ?_
  unfold f_X3_parse at hf
  refine R_iconst dX3_parse_0 (v := 0) rfl ?_
  refine R_istore_n dX3_parse_1 rfl (by decide) rfl rfl ?_
  refine R_aload_n dX3_parse_2 rfl rfl ?_
  refine R_iconst dX3_parse_3 (v := 0) rfl ?_
  obtain ⟨M4, hM4, hf⟩ := ltE hf
  refine R_put (ki := 2) dX3_parse_4 cl3 flX3_18 o_8 (Or.inl fz3_2) rfl hM4 ?_
  refine R_iconst dX3_parse_7 (v := 0) rfl ?_
  refine R_istore_n dX3_parse_8 rfl (by decide) rfl rfl ?_
  exact R_subk (rn_X3_parse_L9 4096 _ _ _ _  hf) ⟨rfl, rfl, rfl, rfl, trivial⟩
/-! BracketHall$Page.clearText()V -/
def f_X4_clearText (o0 : Nat) (M : Mem) : Option (Mem) :=
  lt1 (up M o0 2 0) fun M2 =>
  lt1 (up M2 o0 3 0) fun M7 =>
  some M7
set_option maxRecDepth 20000 in
theorem ct_X4_clearText {G : Gl} (o0 : Nat) (M : Mem) {res : Mem} (ho0 : isO 4 o0) (hf : f_X4_clearText o0 M = some res) : Ct G miX4_clearText yX4_clearText 0 [aR o0] M none res := by
  refine Ct.of (L := [some (aR o0)]) mwX4_clearText rfl trivial nle ⟨rfl, trivial⟩ ?_
  unfold f_X4_clearText at hf
  refine R_aload_n dX4_clearText_0 rfl rfl ?_
  refine R_iconst dX4_clearText_1 (v := 0) rfl ?_
  obtain ⟨M2, hM2, hf⟩ := ltE hf
  refine R_put (ki := 2) dX4_clearText_2 cl4 flX4_18 ho0 (Or.inl fz4_2) rfl hM2 ?_
  refine R_aload_n dX4_clearText_5 rfl rfl ?_
  refine R_iconst dX4_clearText_6 (v := 0) rfl ?_
  obtain ⟨M7, hM7, hf⟩ := ltE hf
  refine R_put (ki := 3) dX4_clearText_7 cl4 flX4_22 ho0 (Or.inl fz4_3) rfl hM7 ?_
  cases hf; exact E_vret dX4_clearText_10 rfl rfl rfl
/-! BracketHall$Page.hasByte(I)Z -/
def f_X4_hasByte (o0 : Nat) (v1 : Int) (M : Mem) : Option (Int) :=
  if v1 < 0 then
    some 0
  else
    if (M o0 2) ≤ v1 then
      some 0
    else
      some 1
set_option maxRecDepth 20000 in
theorem ct_X4_hasByte {G : Gl} (o0 : Nat) (v1 : Int) (M : Mem) {res : Int} (ho0 : isO 4 o0) (hf : f_X4_hasByte o0 v1 M = some res) : Ct G miX4_hasByte yX4_hasByte 0 [aR o0, aI v1] M (some (aI res)) M := by
  refine Ct.of (L := [some (aR o0), some (aI v1)]) mwX4_hasByte rfl trivial nle ⟨rfl, rfl, trivial⟩ ?_
  unfold f_X4_hasByte at hf
  refine R_iload_n dX4_hasByte_0 rfl rfl ?_
  refine R_if_lt dX4_hasByte_1 rfl (fun h1 => ?_) (fun h1 => ?_)
  · replace hf := iposE hf h1
    refine R_iconst dX4_hasByte_16 (v := 0) rfl ?_
    cases hf; exact E_zret dX4_hasByte_17 rfl (by decide) rfl rfl
  · replace hf := inegE hf h1
    refine R_iload_n dX4_hasByte_4 rfl rfl ?_
    refine R_aload_n dX4_hasByte_5 rfl rfl ?_
    refine R_getI (ki := 2) dX4_hasByte_6 cl4 flX4_18 ho0 ff4_2 rfl rfl ?_
    refine R_icmp_ge dX4_hasByte_9 rfl (fun h9 => ?_) (fun h9 => ?_)
    · replace hf := iposE hf h9
      refine R_iconst dX4_hasByte_16 (v := 0) rfl ?_
      cases hf; exact E_zret dX4_hasByte_17 rfl (by decide) rfl rfl
    · replace hf := inegE hf h9
      refine R_iconst dX4_hasByte_12 (v := 1) rfl ?_
      refine R_goto dX4_hasByte_13 rfl ?_
      cases hf; exact E_zret dX4_hasByte_17 rfl (by decide) rfl rfl
/-! BracketHall$Page.hasPlace(I)Z -/
def f_X4_hasPlace (o0 : Nat) (v1 : Int) (M : Mem) : Option (Int) :=
  if v1 < 0 then
    some 0
  else
    if (M o0 2) < v1 then
      some 0
    else
      some 1
set_option maxRecDepth 20000 in
theorem ct_X4_hasPlace {G : Gl} (o0 : Nat) (v1 : Int) (M : Mem) {res : Int} (ho0 : isO 4 o0) (hf : f_X4_hasPlace o0 v1 M = some res) : Ct G miX4_hasPlace yX4_hasPlace 0 [aR o0, aI v1] M (some (aI res)) M := by
  refine Ct.of (L := [some (aR o0), some (aI v1)]) mwX4_hasPlace rfl trivial nle ⟨rfl, rfl, trivial⟩ ?_
  unfold f_X4_hasPlace at hf
  refine R_iload_n dX4_hasPlace_0 rfl rfl ?_
  refine R_if_lt dX4_hasPlace_1 rfl (fun h1 => ?_) (fun h1 => ?_)
  · replace hf := iposE hf h1
    refine R_iconst dX4_hasPlace_16 (v := 0) rfl ?_
    cases hf; exact E_zret dX4_hasPlace_17 rfl (by decide) rfl rfl
  · replace hf := inegE hf h1
    refine R_iload_n dX4_hasPlace_4 rfl rfl ?_
    refine R_aload_n dX4_hasPlace_5 rfl rfl ?_
    refine R_getI (ki := 2) dX4_hasPlace_6 cl4 flX4_18 ho0 ff4_2 rfl rfl ?_
    refine R_icmp_gt dX4_hasPlace_9 rfl (fun h9 => ?_) (fun h9 => ?_)
    · replace hf := iposE hf h9
      refine R_iconst dX4_hasPlace_16 (v := 0) rfl ?_
      cases hf; exact E_zret dX4_hasPlace_17 rfl (by decide) rfl rfl
    · replace hf := inegE hf h9
      refine R_iconst dX4_hasPlace_12 (v := 1) rfl ?_
      refine R_goto dX4_hasPlace_13 rfl ?_
      cases hf; exact E_zret dX4_hasPlace_17 rfl (by decide) rfl rfl
