/-! BracketHallModel.noKind(I)Z -/
def f_X10_noKind (v1 : Int) (M : Mem) : Option (Int × Mem) :=
  (f_X10_isIn v1 0 (w32 ((M 84 1) - 1)) M).bind fun p9 =>
  if p9 = 0 then
    (f_X10_throwsIf 1 1 M).bind fun p21 =>
    if p21.1 = 0 ∨ p21.1 = 1 then
    some (p21.1, p21.2)
    else none
  else
    (f_X10_throwsIf 0 1 M).bind fun p21 =>
    if p21.1 = 0 ∨ p21.1 = 1 then
    some (p21.1, p21.2)
    else none
set_option maxRecDepth 20000 in
theorem ct_X10_noKind {G : Gl} (v1 : Int) (M : Mem) {res : Int × Mem}  (hf : f_X10_noKind v1 M = some res) : Ct G miX10_noKind yX10_noKind 1 [aR 84, aI v1] M (some (aI res.1)) res.2 := by
  refine Ct.of (L := [some (aR 84), some (aI v1)]) mwX10_noKind rfl trivial nle ⟨rfl, rfl, trivial⟩ ?_
  unfold f_X10_noKind at hf
  refine R_aload_n dX10_noKind_0 rfl rfl ?_
  refine R_iload_n dX10_noKind_1 rfl rfl ?_
  refine R_iconst dX10_noKind_2 (v := 0) rfl ?_
  refine R_aload_n dX10_noKind_3 rfl rfl ?_
  refine R_getI (ki := 1) dX10_noKind_4 cl10 flX10_110 o_84 ff10_1 rfl rfl ?_
  refine R_iconst dX10_noKind_7 (v := 1) rfl ?_
  refine R_isub dX10_noKind_8 rfl ?_
  obtain ⟨p9, hp9, hf⟩ := bdE hf
  refine R_callS (As := [aI v1, aI 0, aI (w32 ((M 84 1) - 1))]) (st := [aR 84]) dX10_noKind_9 (ct_X10_isIn _ _ _ _  hp9) mwX10_isIn msX10_isIn mlX10_130 rfl ⟨nle, nle, nle, nle⟩ nle rfl ?_
  refine R_if_ne dX10_noKind_12 rfl (fun h12 => ?_) (fun h12 => ?_)
  · replace hf := inegE hf h12
    refine R_iconst dX10_noKind_19 (v := 0) rfl ?_
    refine R_iconst dX10_noKind_20 (v := 1) rfl ?_
    obtain ⟨p21, hp21, hf⟩ := bdE hf
    refine R_callV (As := [aI 0, aI 1]) (st := []) dX10_noKind_21 (ct_X10_throwsIf _ _ _  hp21) mwX10_throwsIf mvX10_throwsIf mlX10_227 cl10 o_84 rfl rfl ⟨nle, nle, nle, nle⟩ nle rfl ?_
    obtain ⟨hb, hf⟩ := gdE hf
    cases hf; exact E_zret dX10_noKind_24 rfl hb rfl rfl
  · replace hf := iposE hf h12
    refine R_iconst dX10_noKind_15 (v := 1) rfl ?_
    refine R_goto dX10_noKind_16 rfl ?_
    refine R_iconst dX10_noKind_20 (v := 1) rfl ?_
    obtain ⟨p21, hp21, hf⟩ := bdE hf
    refine R_callV (As := [aI 1, aI 1]) (st := []) dX10_noKind_21 (ct_X10_throwsIf _ _ _  hp21) mwX10_throwsIf mvX10_throwsIf mlX10_227 cl10 o_84 rfl rfl ⟨nle, nle, nle, nle⟩ nle rfl ?_
    obtain ⟨hb, hf⟩ := gdE hf
    cases hf; exact E_zret dX10_noKind_24 rfl hb rfl rfl
/-! BracketHallModel.count(II)I -/
def f_X10_count_L46 : Nat → Int → Int → Int → Int → Mem → Option (Int × Mem)
  | 0, _, _, _, _, _ => none
  | n + 1, v1, v2, v3, v4, M =>
    if (M 84 26) ≤ v4 then
      some (v3, M)
    else
      if v2 = 0 then
        if (0 : Int) ≤ v4 ∧ v4 < 240 then
        lt1 (M 95 v4) fun v5_98 =>
        if (M 94 v4) = v1 then
          if v5_98 = 0 then
            lt1 (w32 (v3 + 0)) fun v3_123 =>
            lt1 (w32 (v4 + 1)) fun v4_124 =>
            f_X10_count_L46 n v1 v2 v3_123 v4_124 M
          else
            lt1 (w32 (v3 + 1)) fun v3_123 =>
            lt1 (w32 (v4 + 1)) fun v4_124 =>
            f_X10_count_L46 n v1 v2 v3_123 v4_124 M
        else
          lt1 (w32 (v3 + 0)) fun v3_123 =>
          lt1 (w32 (v4 + 1)) fun v4_124 =>
          f_X10_count_L46 n v1 v2 v3_123 v4_124 M
        else none
      else
        if v2 = 1 then
          if (0 : Int) ≤ v4 ∧ v4 < 240 then
          if (M 95 v4) = 0 then
            if (M 94 v4) = v1 then
              lt1 (w32 (v3 + 1)) fun v3_123 =>
              lt1 (w32 (v4 + 1)) fun v4_124 =>
              f_X10_count_L46 n v1 v2 v3_123 v4_124 M
            else
              lt1 (w32 (v3 + 0)) fun v3_123 =>
              lt1 (w32 (v4 + 1)) fun v4_124 =>
              f_X10_count_L46 n v1 v2 v3_123 v4_124 M
          else
            if (M 94 v4) = v1 then
              lt1 (w32 (v3 + 0)) fun v3_123 =>
              lt1 (w32 (v4 + 1)) fun v4_124 =>
              f_X10_count_L46 n v1 v2 v3_123 v4_124 M
            else
              lt1 (w32 (v3 + 0)) fun v3_123 =>
              lt1 (w32 (v4 + 1)) fun v4_124 =>
              f_X10_count_L46 n v1 v2 v3_123 v4_124 M
          else none
        else
          (f_X10_isPair v4 M).bind fun p95 =>
          if (0 : Int) ≤ v4 ∧ v4 < 240 then
          if (M 94 v4) = v1 then
            if p95 = 0 then
              lt1 (w32 (v3 + 0)) fun v3_123 =>
              lt1 (w32 (v4 + 1)) fun v4_124 =>
              f_X10_count_L46 n v1 v2 v3_123 v4_124 M
            else
              lt1 (w32 (v3 + 1)) fun v3_123 =>
              lt1 (w32 (v4 + 1)) fun v4_124 =>
              f_X10_count_L46 n v1 v2 v3_123 v4_124 M
          else
            lt1 (w32 (v3 + 0)) fun v3_123 =>
            lt1 (w32 (v4 + 1)) fun v4_124 =>
            f_X10_count_L46 n v1 v2 v3_123 v4_124 M
          else none
def f_X10_count (v1 : Int) (v2 : Int) (M : Mem) : Option (Int × Mem) :=
  lt1 (up M 84 0 0) fun M2 =>
  (f_X10_noKind v1 M2).bind fun p7 =>
  if p7.1 = 0 then
    (f_X10_isIn v2 0 2 p7.2).bind fun p17 =>
    if p17 = 0 then
      (f_X10_throwsIf 1 2 p7.2).bind fun p29 =>
      if p29.1 = 0 then
        (f_X10_findsPairs p29.2).bind fun p38 =>
        f_X10_count_L46 4096 v1 v2 0 0 p38
      else
        some (0, p29.2)
    else
      (f_X10_throwsIf 0 2 p7.2).bind fun p29 =>
      if p29.1 = 0 then
        (f_X10_findsPairs p29.2).bind fun p38 =>
        f_X10_count_L46 4096 v1 v2 0 0 p38
      else
        some (0, p29.2)
  else
    some (0, p7.2)
set_option maxRecDepth 20000 in
theorem rn_X10_count_L46 {G : Gl} : ∀ (n : Nat) (v1 : Int) (v2 : Int) (v3 : Int) (v4 : Int) (M : Mem) (res : Int × Mem),  f_X10_count_L46 n v1 v2 v3 v4 M = some res → Run G false (rmD 4 0 0) miX10_count (ZP G (some (aI res.1)) res.2) 0 0 46 [some (aR 84), some (aI v1), some (aI v2), some (aI v3), some (aI v4), none] [] M := by
  intro n
  induction n with
  | zero => intro v1 v2 v3 v4 M res  hf; cases hf
  | succ n ih =>
    intro v1 v2 v3 v4 M res  hf
    rw [f_X10_count_L46] at hf
    refine R_iload dX10_count_46 rfl ?_
    refine R_aload_n dX10_count_48 rfl rfl ?_
    refine R_getI (ki := 26) dX10_count_49 cl10 flX10_264 o_84 ff10_26 rfl rfl ?_
    refine R_icmp_ge dX10_count_52 rfl (fun h52 => ?_) (fun h52 => ?_)
    · replace hf := iposE hf h52
      refine R_iload_n dX10_count_130 rfl rfl ?_
      cases hf; exact E_iret dX10_count_131 rfl rfl rfl
    · replace hf := inegE hf h52
      refine R_iload_n dX10_count_55 rfl rfl ?_
      refine R_if_ne dX10_count_56 rfl (fun h56 => ?_) (fun h56 => ?_)
      · replace hf := inegE hf h56
        refine R_iload_n dX10_count_69 rfl rfl ?_
        refine R_iconst dX10_count_70 (v := 1) rfl ?_
        refine R_icmp_ne dX10_count_71 rfl (fun h71 => ?_) (fun h71 => ?_)
        · replace hf := inegE hf h71
          refine R_aload_n dX10_count_92 rfl rfl ?_
          refine R_iload dX10_count_93 rfl ?_
          obtain ⟨p95, hp95, hf⟩ := bdE hf
          refine R_callV (As := [aI v4]) (st := []) dX10_count_95 (ct_X10_isPair _ _  hp95) mwX10_isPair mvX10_isPair mlX10_275 cl10 o_84 rfl rfl ⟨nle, nle, nle, nle⟩ nle rfl ?_
          refine R_istore dX10_count_98 (by decide) rfl rfl ?_
          refine R_iload_n dX10_count_100 rfl rfl ?_
          refine R_aload_n dX10_count_101 rfl rfl ?_
          refine R_getR dX10_count_102 cl10 flX10_51 o_84 ff10_28 (fr10_28 _) a_94.1 ?_
          refine R_iload dX10_count_105 rfl ?_
          obtain ⟨hg1, hf⟩ := gdE hf
          refine R_iaload dX10_count_107 a_94 hg1.1 hg1.2 rfl ?_
          refine R_iload_n dX10_count_108 rfl rfl ?_
          refine R_icmp_ne dX10_count_109 rfl (fun h109 => ?_) (fun h109 => ?_)
          · replace hf := inegE hf h109
            refine R_iconst dX10_count_121 (v := 0) rfl ?_
            refine R_iadd dX10_count_122 rfl ?_
            obtain ⟨v3_123, hv3_123, hf⟩ := ltE hf
            refine R_istore_n dX10_count_123 rfl (by decide) hv3_123 rfl ?_
            obtain ⟨v4_124, hv4_124, hf⟩ := ltE hf
            refine R_iinc dX10_count_124 rfl rfl hv4_124 (by decide) rfl ?_
            refine R_goto dX10_count_127 rfl ?_
            exact R_subk (ih _ _ _ _ _ _  hf) ⟨rfl, rfl, rfl, rfl, rfl, trivial⟩
          · replace hf := iposE hf h109
            refine R_iload dX10_count_112 rfl ?_
            refine R_if_eq dX10_count_114 rfl (fun h114 => ?_) (fun h114 => ?_)
            · replace hf := iposE hf h114
              refine R_iconst dX10_count_121 (v := 0) rfl ?_
              refine R_iadd dX10_count_122 rfl ?_
              obtain ⟨v3_123, hv3_123, hf⟩ := ltE hf
              refine R_istore_n dX10_count_123 rfl (by decide) hv3_123 rfl ?_
              obtain ⟨v4_124, hv4_124, hf⟩ := ltE hf
              refine R_iinc dX10_count_124 rfl rfl hv4_124 (by decide) rfl ?_
              refine R_goto dX10_count_127 rfl ?_
              exact R_subk (ih _ _ _ _ _ _  hf) ⟨rfl, rfl, rfl, rfl, rfl, trivial⟩
            · replace hf := inegE hf h114
              refine R_iconst dX10_count_117 (v := 1) rfl ?_
              refine R_goto dX10_count_118 rfl ?_
              refine R_iadd dX10_count_122 rfl ?_
              obtain ⟨v3_123, hv3_123, hf⟩ := ltE hf
              refine R_istore_n dX10_count_123 rfl (by decide) hv3_123 rfl ?_
              obtain ⟨v4_124, hv4_124, hf⟩ := ltE hf
              refine R_iinc dX10_count_124 rfl rfl hv4_124 (by decide) rfl ?_
              refine R_goto dX10_count_127 rfl ?_
              exact R_subk (ih _ _ _ _ _ _  hf) ⟨rfl, rfl, rfl, rfl, rfl, trivial⟩
        · replace hf := iposE hf h71
          refine R_aload_n dX10_count_74 rfl rfl ?_
          refine R_getR dX10_count_75 cl10 flX10_54 o_84 ff10_29 (fr10_29 _) a_95.1 ?_
          refine R_iload dX10_count_78 rfl ?_
          obtain ⟨hg2, hf⟩ := gdE hf
          refine R_zaload dX10_count_80 a_95 hg2.1 hg2.2 rfl ?_
          refine R_if_ne dX10_count_81 rfl (fun h81 => ?_) (fun h81 => ?_)
          · replace hf := inegE hf h81
            refine R_iconst dX10_count_88 (v := 0) rfl ?_
            refine R_goto dX10_count_89 rfl ?_
            refine R_istore dX10_count_98 (by decide) rfl rfl ?_
            refine R_iload_n dX10_count_100 rfl rfl ?_
            refine R_aload_n dX10_count_101 rfl rfl ?_
            refine R_getR dX10_count_102 cl10 flX10_51 o_84 ff10_28 (fr10_28 _) a_94.1 ?_
            refine R_iload dX10_count_105 rfl ?_
            refine R_iaload dX10_count_107 a_94 hg2.1 hg2.2 rfl ?_
            refine R_iload_n dX10_count_108 rfl rfl ?_
            refine R_icmp_ne dX10_count_109 rfl (fun h109 => ?_) (fun h109 => ?_)
            · replace hf := inegE hf h109
              refine R_iconst dX10_count_121 (v := 0) rfl ?_
              refine R_iadd dX10_count_122 rfl ?_
              obtain ⟨v3_123, hv3_123, hf⟩ := ltE hf
              refine R_istore_n dX10_count_123 rfl (by decide) hv3_123 rfl ?_
              obtain ⟨v4_124, hv4_124, hf⟩ := ltE hf
              refine R_iinc dX10_count_124 rfl rfl hv4_124 (by decide) rfl ?_
              refine R_goto dX10_count_127 rfl ?_
              exact R_subk (ih _ _ _ _ _ _  hf) ⟨rfl, rfl, rfl, rfl, rfl, trivial⟩
            · replace hf := iposE hf h109
              refine R_iload dX10_count_112 rfl ?_
              refine R_if_eq dX10_count_114 rfl (fun _ => ?_) (fun h => absurd h (by decide))
              refine R_iconst dX10_count_121 (v := 0) rfl ?_
              refine R_iadd dX10_count_122 rfl ?_
              obtain ⟨v3_123, hv3_123, hf⟩ := ltE hf
              refine R_istore_n dX10_count_123 rfl (by decide) hv3_123 rfl ?_
              obtain ⟨v4_124, hv4_124, hf⟩ := ltE hf
              refine R_iinc dX10_count_124 rfl rfl hv4_124 (by decide) rfl ?_
              refine R_goto dX10_count_127 rfl ?_
              exact R_subk (ih _ _ _ _ _ _  hf) ⟨rfl, rfl, rfl, rfl, rfl, trivial⟩
          · replace hf := iposE hf h81
            refine R_iconst dX10_count_84 (v := 1) rfl ?_
            refine R_goto dX10_count_85 rfl ?_
            refine R_istore dX10_count_98 (by decide) rfl rfl ?_
            refine R_iload_n dX10_count_100 rfl rfl ?_
            refine R_aload_n dX10_count_101 rfl rfl ?_
            refine R_getR dX10_count_102 cl10 flX10_51 o_84 ff10_28 (fr10_28 _) a_94.1 ?_
            refine R_iload dX10_count_105 rfl ?_
            refine R_iaload dX10_count_107 a_94 hg2.1 hg2.2 rfl ?_
            refine R_iload_n dX10_count_108 rfl rfl ?_
            refine R_icmp_ne dX10_count_109 rfl (fun h109 => ?_) (fun h109 => ?_)
            · replace hf := inegE hf h109
              refine R_iconst dX10_count_121 (v := 0) rfl ?_
              refine R_iadd dX10_count_122 rfl ?_
              obtain ⟨v3_123, hv3_123, hf⟩ := ltE hf
              refine R_istore_n dX10_count_123 rfl (by decide) hv3_123 rfl ?_
              obtain ⟨v4_124, hv4_124, hf⟩ := ltE hf
              refine R_iinc dX10_count_124 rfl rfl hv4_124 (by decide) rfl ?_
              refine R_goto dX10_count_127 rfl ?_
              exact R_subk (ih _ _ _ _ _ _  hf) ⟨rfl, rfl, rfl, rfl, rfl, trivial⟩
            · replace hf := iposE hf h109
              refine R_iload dX10_count_112 rfl ?_
              refine R_if_eq dX10_count_114 rfl (fun h => absurd h (by decide)) (fun _ => ?_)
              refine R_iconst dX10_count_117 (v := 1) rfl ?_
              refine R_goto dX10_count_118 rfl ?_
              refine R_iadd dX10_count_122 rfl ?_
              obtain ⟨v3_123, hv3_123, hf⟩ := ltE hf
              refine R_istore_n dX10_count_123 rfl (by decide) hv3_123 rfl ?_
              obtain ⟨v4_124, hv4_124, hf⟩ := ltE hf
              refine R_iinc dX10_count_124 rfl rfl hv4_124 (by decide) rfl ?_
              refine R_goto dX10_count_127 rfl ?_
              exact R_subk (ih _ _ _ _ _ _  hf) ⟨rfl, rfl, rfl, rfl, rfl, trivial⟩
      · replace hf := iposE hf h56
        refine R_aload_n dX10_count_59 rfl rfl ?_
        refine R_getR dX10_count_60 cl10 flX10_54 o_84 ff10_29 (fr10_29 _) a_95.1 ?_
        refine R_iload dX10_count_63 rfl ?_
        obtain ⟨hg3, hf⟩ := gdE hf
        refine R_zaload dX10_count_65 a_95 hg3.1 hg3.2 rfl ?_
        refine R_goto dX10_count_66 rfl ?_
        obtain ⟨v5_98, hv5_98, hf⟩ := ltE hf
        refine R_istore dX10_count_98 (by decide) hv5_98 rfl ?_
        refine R_iload_n dX10_count_100 rfl rfl ?_
        refine R_aload_n dX10_count_101 rfl rfl ?_
        refine R_getR dX10_count_102 cl10 flX10_51 o_84 ff10_28 (fr10_28 _) a_94.1 ?_
        refine R_iload dX10_count_105 rfl ?_
        refine R_iaload dX10_count_107 a_94 hg3.1 hg3.2 rfl ?_
        refine R_iload_n dX10_count_108 rfl rfl ?_
        refine R_icmp_ne dX10_count_109 rfl (fun h109 => ?_) (fun h109 => ?_)
        · replace hf := inegE hf h109
          refine R_iconst dX10_count_121 (v := 0) rfl ?_
          refine R_iadd dX10_count_122 rfl ?_
          obtain ⟨v3_123, hv3_123, hf⟩ := ltE hf
          refine R_istore_n dX10_count_123 rfl (by decide) hv3_123 rfl ?_
          obtain ⟨v4_124, hv4_124, hf⟩ := ltE hf
          refine R_iinc dX10_count_124 rfl rfl hv4_124 (by decide) rfl ?_
          refine R_goto dX10_count_127 rfl ?_
          exact R_subk (ih _ _ _ _ _ _  hf) ⟨rfl, rfl, rfl, rfl, rfl, trivial⟩
        · replace hf := iposE hf h109
          refine R_iload dX10_count_112 rfl ?_
          refine R_if_eq dX10_count_114 rfl (fun h114 => ?_) (fun h114 => ?_)
          · replace hf := iposE hf h114
            refine R_iconst dX10_count_121 (v := 0) rfl ?_
            refine R_iadd dX10_count_122 rfl ?_
            obtain ⟨v3_123, hv3_123, hf⟩ := ltE hf
            refine R_istore_n dX10_count_123 rfl (by decide) hv3_123 rfl ?_
            obtain ⟨v4_124, hv4_124, hf⟩ := ltE hf
            refine R_iinc dX10_count_124 rfl rfl hv4_124 (by decide) rfl ?_
            refine R_goto dX10_count_127 rfl ?_
            exact R_subk (ih _ _ _ _ _ _  hf) ⟨rfl, rfl, rfl, rfl, rfl, trivial⟩
          · replace hf := inegE hf h114
            refine R_iconst dX10_count_117 (v := 1) rfl ?_
            refine R_goto dX10_count_118 rfl ?_
            refine R_iadd dX10_count_122 rfl ?_
            obtain ⟨v3_123, hv3_123, hf⟩ := ltE hf
            refine R_istore_n dX10_count_123 rfl (by decide) hv3_123 rfl ?_
            obtain ⟨v4_124, hv4_124, hf⟩ := ltE hf
            refine R_iinc dX10_count_124 rfl rfl hv4_124 (by decide) rfl ?_
            refine R_goto dX10_count_127 rfl ?_
            exact R_subk (ih _ _ _ _ _ _  hf) ⟨rfl, rfl, rfl, rfl, rfl, trivial⟩
set_option maxRecDepth 20000 in
theorem ct_X10_count {G : Gl} (v1 : Int) (v2 : Int) (M : Mem) {res : Int × Mem}  (hf : f_X10_count v1 v2 M = some res) : Ct G miX10_count yX10_count 4 [aR 84, aI v1, aI v2] M (some (aI res.1)) res.2 := by
  refine Ct.of (L := [some (aR 84), some (aI v1), some (aI v2), none, none, none]) mwX10_count rfl trivial nle ⟨rfl, rfl, rfl, trivial⟩ ?_
  unfold f_X10_count at hf
  refine R_aload_n dX10_count_0 rfl rfl ?_
  refine R_iconst dX10_count_1 (v := 0) rfl ?_
  obtain ⟨M2, hM2, hf⟩ := ltE hf
  refine R_put (ki := 0) dX10_count_2 cl10 flX10_117 o_84 (Or.inl fz10_0) rfl hM2 ?_
  refine R_aload_n dX10_count_5 rfl rfl ?_
  refine R_iload_n dX10_count_6 rfl rfl ?_
  obtain ⟨p7, hp7, hf⟩ := bdE hf
  refine R_callV (As := [aI v1]) (st := []) dX10_count_7 (ct_X10_noKind _ _  hp7) mwX10_noKind mvX10_noKind mlX10_331 cl10 o_84 rfl rfl ⟨nle, nle, nle, nle⟩ nle rfl ?_
  refine R_if_ne dX10_count_10 rfl (fun h10 => ?_) (fun h10 => ?_)
  · replace hf := inegE hf h10
    refine R_iconst dX10_count_35 (v := 0) rfl ?_
    cases hf; exact E_iret dX10_count_36 rfl rfl rfl
  · replace hf := iposE hf h10
    refine R_aload_n dX10_count_13 rfl rfl ?_
    refine R_iload_n dX10_count_14 rfl rfl ?_
    refine R_iconst dX10_count_15 (v := 0) rfl ?_
    refine R_iconst dX10_count_16 (v := 2) rfl ?_
    obtain ⟨p17, hp17, hf⟩ := bdE hf
    refine R_callS (As := [aI v2, aI 0, aI 2]) (st := [aR 84]) dX10_count_17 (ct_X10_isIn _ _ _ _  hp17) mwX10_isIn msX10_isIn mlX10_130 rfl ⟨nle, nle, nle, nle⟩ nle rfl ?_
    refine R_if_ne dX10_count_20 rfl (fun h20 => ?_) (fun h20 => ?_)
    · replace hf := inegE hf h20
      refine R_iconst dX10_count_27 (v := 0) rfl ?_
      refine R_iconst dX10_count_28 (v := 2) rfl ?_
      obtain ⟨p29, hp29, hf⟩ := bdE hf
      refine R_callV (As := [aI 0, aI 2]) (st := []) dX10_count_29 (ct_X10_throwsIf _ _ _  hp29) mwX10_throwsIf mvX10_throwsIf mlX10_227 cl10 o_84 rfl rfl ⟨nle, nle, nle, nle⟩ nle rfl ?_
      refine R_if_eq dX10_count_32 rfl (fun h32 => ?_) (fun h32 => ?_)
      · replace hf := iposE hf h32
        refine R_aload_n dX10_count_37 rfl rfl ?_
        obtain ⟨p38, hp38, hf⟩ := bdE hf
        refine R_callV (As := []) (st := []) dX10_count_38 (ct_X10_findsPairs  _  hp38) mwX10_findsPairs mvX10_findsPairs mlX10_292 cl10 o_84 rfl rfl ⟨nle, nle, nle, nle⟩ nle rfl ?_
        refine R_iconst dX10_count_41 (v := 0) rfl ?_
        refine R_istore_n dX10_count_42 rfl (by decide) rfl rfl ?_
        refine R_iconst dX10_count_43 (v := 0) rfl ?_
        refine R_istore dX10_count_44 (by decide) rfl rfl ?_
        exact R_subk (rn_X10_count_L46 4096 _ _ _ _ _ _  hf) ⟨rfl, rfl, rfl, rfl, rfl, trivial⟩
      · replace hf := inegE hf h32
        refine R_iconst dX10_count_35 (v := 0) rfl ?_
        cases hf; exact E_iret dX10_count_36 rfl rfl rfl
    · replace hf := iposE hf h20
      refine R_iconst dX10_count_23 (v := 1) rfl ?_
      refine R_goto dX10_count_24 rfl ?_
      refine R_iconst dX10_count_28 (v := 2) rfl ?_
      obtain ⟨p29, hp29, hf⟩ := bdE hf
      refine R_callV (As := [aI 1, aI 2]) (st := []) dX10_count_29 (ct_X10_throwsIf _ _ _  hp29) mwX10_throwsIf mvX10_throwsIf mlX10_227 cl10 o_84 rfl rfl ⟨nle, nle, nle, nle⟩ nle rfl ?_
      refine R_if_eq dX10_count_32 rfl (fun h32 => ?_) (fun h32 => ?_)
      · replace hf := iposE hf h32
        refine R_aload_n dX10_count_37 rfl rfl ?_
        obtain ⟨p38, hp38, hf⟩ := bdE hf
        refine R_callV (As := []) (st := []) dX10_count_38 (ct_X10_findsPairs  _  hp38) mwX10_findsPairs mvX10_findsPairs mlX10_292 cl10 o_84 rfl rfl ⟨nle, nle, nle, nle⟩ nle rfl ?_
        refine R_iconst dX10_count_41 (v := 0) rfl ?_
        refine R_istore_n dX10_count_42 rfl (by decide) rfl rfl ?_
        refine R_iconst dX10_count_43 (v := 0) rfl ?_
        refine R_istore dX10_count_44 (by decide) rfl rfl ?_
        exact R_subk (rn_X10_count_L46 4096 _ _ _ _ _ _  hf) ⟨rfl, rfl, rfl, rfl, rfl, trivial⟩
      · replace hf := inegE hf h32
        refine R_iconst dX10_count_35 (v := 0) rfl ?_
        cases hf; exact E_iret dX10_count_36 rfl rfl rfl
/-! BracketHallModel.widest()I -/
def f_X10_widest_L15 : Nat → Int → Int → Int → Mem → Option (Int × Mem)
  | 0, _, _, _, _ => none
  | n + 1, v1, v2, v3, M =>
    if (M 84 26) ≤ v3 then
      some (v1, M)
    else
      (f_X10_isPair v3 M).bind fun p25 =>
      if p25 = 0 then
        lt1 (w32 (v3 + 1)) fun v3_67 =>
        f_X10_widest_L15 n v1 v2 v3_67 M
      else
        (f_X10_end v3 M).bind fun p33 =>
        if (0 : Int) ≤ v3 ∧ v3 < 240 then
        if (w32 (p33 - (M 93 v3))) ≤ v2 then
          lt1 (w32 (v3 + 1)) fun v3_67 =>
          f_X10_widest_L15 n v1 v2 v3_67 M
        else
          (f_X10_end v3 M).bind fun p49 =>
          lt1 (w32 (p49 - (M 93 v3))) fun v2_59 =>
          lt1 (M 93 v3) fun v1_66 =>
          lt1 (w32 (v3 + 1)) fun v3_67 =>
          f_X10_widest_L15 n v1_66 v2_59 v3_67 M
        else none
def f_X10_widest  (M : Mem) : Option (Int × Mem) :=
  lt1 (up M 84 0 0) fun M2 =>
  (f_X10_findsPairs M2).bind fun p6 =>
  f_X10_widest_L15 4096 (-1) 0 0 p6
set_option maxRecDepth 20000 in
theorem rn_X10_widest_L15 {G : Gl} : ∀ (n : Nat) (v1 : Int) (v2 : Int) (v3 : Int) (M : Mem) (res : Int × Mem),  f_X10_widest_L15 n v1 v2 v3 M = some res → Run G false (rmD 4 0 0) miX10_widest (ZP G (some (aI res.1)) res.2) 0 0 15 [some (aR 84), some (aI v1), some (aI v2), some (aI v3)] [] M := by
  intro n
  induction n with
  | zero => intro v1 v2 v3 M res  hf; cases hf
  | succ n ih =>
    intro v1 v2 v3 M res  hf
    rw [f_X10_widest_L15] at hf
    refine R_iload_n dX10_widest_15 rfl rfl ?_
    refine R_aload_n dX10_widest_16 rfl rfl ?_
    refine R_getI (ki := 26) dX10_widest_17 cl10 flX10_264 o_84 ff10_26 rfl rfl ?_
    refine R_icmp_ge dX10_widest_20 rfl (fun h20 => ?_) (fun h20 => ?_)
    · replace hf := iposE hf h20
      refine R_iload_n dX10_widest_73 rfl rfl ?_
      cases hf; exact E_iret dX10_widest_74 rfl rfl rfl
    · replace hf := inegE hf h20
      refine R_aload_n dX10_widest_23 rfl rfl ?_
      refine R_iload_n dX10_widest_24 rfl rfl ?_
      obtain ⟨p25, hp25, hf⟩ := bdE hf
      refine R_callV (As := [aI v3]) (st := []) dX10_widest_25 (ct_X10_isPair _ _  hp25) mwX10_isPair mvX10_isPair mlX10_275 cl10 o_84 rfl rfl ⟨nle, nle, nle, nle⟩ nle rfl ?_
      refine R_if_eq dX10_widest_28 rfl (fun h28 => ?_) (fun h28 => ?_)
      · replace hf := iposE hf h28
        obtain ⟨v3_67, hv3_67, hf⟩ := ltE hf
        refine R_iinc dX10_widest_67 rfl rfl hv3_67 (by decide) rfl ?_
        refine R_goto dX10_widest_70 rfl ?_
        exact R_subk (ih _ _ _ _ _  hf) ⟨rfl, rfl, rfl, rfl, trivial⟩
      · replace hf := inegE hf h28
        refine R_aload_n dX10_widest_31 rfl rfl ?_
        refine R_iload_n dX10_widest_32 rfl rfl ?_
        obtain ⟨p33, hp33, hf⟩ := bdE hf
        refine R_callV (As := [aI v3]) (st := []) dX10_widest_33 (ct_X10_end _ _  hp33) mwX10_end mvX10_end mlX10_278 cl10 o_84 rfl rfl ⟨nle, nle, nle, nle⟩ nle rfl ?_
        refine R_aload_n dX10_widest_36 rfl rfl ?_
        refine R_getR dX10_widest_37 cl10 flX10_48 o_84 ff10_27 (fr10_27 _) a_93.1 ?_
        refine R_iload_n dX10_widest_40 rfl rfl ?_
        obtain ⟨hg1, hf⟩ := gdE hf
        refine R_iaload dX10_widest_41 a_93 hg1.1 hg1.2 rfl ?_
        refine R_isub dX10_widest_42 rfl ?_
        refine R_iload_n dX10_widest_43 rfl rfl ?_
        refine R_icmp_le dX10_widest_44 rfl (fun h44 => ?_) (fun h44 => ?_)
        · replace hf := iposE hf h44
          obtain ⟨v3_67, hv3_67, hf⟩ := ltE hf
          refine R_iinc dX10_widest_67 rfl rfl hv3_67 (by decide) rfl ?_
          refine R_goto dX10_widest_70 rfl ?_
          exact R_subk (ih _ _ _ _ _  hf) ⟨rfl, rfl, rfl, rfl, trivial⟩
        · replace hf := inegE hf h44
          refine R_aload_n dX10_widest_47 rfl rfl ?_
          refine R_iload_n dX10_widest_48 rfl rfl ?_
          obtain ⟨p49, hp49, hf⟩ := bdE hf
          refine R_callV (As := [aI v3]) (st := []) dX10_widest_49 (ct_X10_end _ _  hp49) mwX10_end mvX10_end mlX10_278 cl10 o_84 rfl rfl ⟨nle, nle, nle, nle⟩ nle rfl ?_
          refine R_aload_n dX10_widest_52 rfl rfl ?_
          refine R_getR dX10_widest_53 cl10 flX10_48 o_84 ff10_27 (fr10_27 _) a_93.1 ?_
          refine R_iload_n dX10_widest_56 rfl rfl ?_
          refine R_iaload dX10_widest_57 a_93 hg1.1 hg1.2 rfl ?_
          refine R_isub dX10_widest_58 rfl ?_
          obtain ⟨v2_59, hv2_59, hf⟩ := ltE hf
          refine R_istore_n dX10_widest_59 rfl (by decide) hv2_59 rfl ?_
          refine R_aload_n dX10_widest_60 rfl rfl ?_
          refine R_getR dX10_widest_61 cl10 flX10_48 o_84 ff10_27 (fr10_27 _) a_93.1 ?_
          refine R_iload_n dX10_widest_64 rfl rfl ?_
          refine R_iaload dX10_widest_65 a_93 hg1.1 hg1.2 rfl ?_
          obtain ⟨v1_66, hv1_66, hf⟩ := ltE hf
          refine R_istore_n dX10_widest_66 rfl (by decide) hv1_66 rfl ?_
          obtain ⟨v3_67, hv3_67, hf⟩ := ltE hf
          refine R_iinc dX10_widest_67 rfl rfl hv3_67 (by decide) rfl ?_
          refine R_goto dX10_widest_70 rfl ?_
          exact R_subk (ih _ _ _ _ _  hf) ⟨rfl, rfl, rfl, rfl, trivial⟩
set_option maxRecDepth 20000 in
theorem ct_X10_widest {G : Gl}  (M : Mem) {res : Int × Mem}  (hf : f_X10_widest  M = some res) : Ct G miX10_widest yX10_widest 4 [aR 84] M (some (aI res.1)) res.2 := by
  refine Ct.of (L := [some (aR 84), none, none, none]) mwX10_widest rfl trivial nle ⟨rfl, trivial⟩ ?_
  unfold f_X10_widest at hf
  refine R_aload_n dX10_widest_0 rfl rfl ?_
  refine R_iconst dX10_widest_1 (v := 0) rfl ?_
  obtain ⟨M2, hM2, hf⟩ := ltE hf
  refine R_put (ki := 0) dX10_widest_2 cl10 flX10_117 o_84 (Or.inl fz10_0) rfl hM2 ?_
  refine R_aload_n dX10_widest_5 rfl rfl ?_
  obtain ⟨p6, hp6, hf⟩ := bdE hf
  refine R_callV (As := []) (st := []) dX10_widest_6 (ct_X10_findsPairs  _  hp6) mwX10_findsPairs mvX10_findsPairs mlX10_292 cl10 o_84 rfl rfl ⟨nle, nle, nle, nle⟩ nle rfl ?_
  refine R_iconst dX10_widest_9 (v := (-1)) rfl ?_
  refine R_istore_n dX10_widest_10 rfl (by decide) rfl rfl ?_
  refine R_iconst dX10_widest_11 (v := 0) rfl ?_
  refine R_istore_n dX10_widest_12 rfl (by decide) rfl rfl ?_
  refine R_iconst dX10_widest_13 (v := 0) rfl ?_
  refine R_istore_n dX10_widest_14 rfl (by decide) rfl rfl ?_
  exact R_subk (rn_X10_widest_L15 4096 _ _ _ _ _  hf) ⟨rfl, rfl, rfl, rfl, trivial⟩
/-! BracketHallModel.cost(II)I -/
def f_X10_cost (v1 : Int) (v2 : Int) (M : Mem) : Option (Int) :=
  if (0 : Int) ≤ w32 ((w32 (241 * v1)) + v2) ∧ w32 ((w32 (241 * v1)) + v2) < 58081 then
  some (M 98 (w32 ((w32 (241 * v1)) + v2)))
  else none
set_option maxRecDepth 20000 in
theorem ct_X10_cost {G : Gl} (v1 : Int) (v2 : Int) (M : Mem) {res : Int}  (hf : f_X10_cost v1 v2 M = some res) : Ct G miX10_cost yX10_cost 0 [aR 84, aI v1, aI v2] M (some (aI res)) M := by
  refine Ct.of (L := [some (aR 84), some (aI v1), some (aI v2)]) mwX10_cost rfl trivial nle ⟨rfl, rfl, rfl, trivial⟩ ?_
  unfold f_X10_cost at hf
  refine R_aload_n dX10_cost_0 rfl rfl ?_
  refine R_getR dX10_cost_1 cl10 flX10_65 o_84 ff10_32 (fr10_32 _) a_98.1 ?_
  refine R_sipush dX10_cost_4 (v := 241) rfl ?_
  refine R_iload_n dX10_cost_7 rfl rfl ?_
  refine R_imul dX10_cost_8 rfl ?_
  refine R_iload_n dX10_cost_9 rfl rfl ?_
  refine R_iadd dX10_cost_10 rfl ?_
  obtain ⟨hg1, hf⟩ := gdE hf
  refine R_iaload dX10_cost_11 a_98 hg1.1 hg1.2 rfl ?_
  cases hf; exact E_iret dX10_cost_12 rfl rfl rfl
/-! BracketHallModel.laysCost(II)V -/
def f_X10_laysCost_K178 (v1 : Int) (v2 : Int) (v3 : Int) (v4 : Int) (M : Mem) : Option (Mem) :=
  if (0 : Int) ≤ w32 ((w32 (241 * v1)) + v2) ∧ w32 ((w32 (241 * v1)) + v2) < 58081 then
  lt1 (up M 98 (w32 ((w32 (241 * v1)) + v2)) v3) fun M190 =>
  lt1 (up M190 99 (w32 ((w32 (241 * v1)) + v2)) v4) fun M204 =>
  some M204
  else none
def f_X10_laysCost_L66 : Nat → Int → Int → Int → Int → Int → Mem → Option (Mem)
  | 0, _, _, _, _, _, _ => none
  | n + 1, v1, v2, v3, v4, v5, M =>
    if v2 ≤ v5 then
      f_X10_laysCost_K178 v1 v2 v3 v4 M
    else
      if (0 : Int) ≤ v1 ∧ v1 < 240 then
      if (M 95 v1) = 0 then
        f_X10_laysCost_K178 v1 v2 v3 v4 M
      else
        if (0 : Int) ≤ v5 ∧ v5 < 240 then
        if (M 95 v5) = 0 then
          if (M 94 v5) = (M 94 v1) then
            if (0 : Int) ≤ w32 ((w32 ((w32 (241 * v1)) + 241)) + v5) ∧ w32 ((w32 ((w32 (241 * v1)) + 241)) + v5) < 58081 then
            if (0 : Int) ≤ w32 ((w32 ((w32 (241 * v5)) + 241)) + v2) ∧ w32 ((w32 ((w32 (241 * v5)) + 241)) + v2) < 58081 then
            lt1 (w32 ((w32 (0 + (M 98 (w32 ((w32 ((w32 (241 * v1)) + 241)) + v5))))) + (M 98 (w32 ((w32 ((w32 (241 * v5)) + 241)) + v2))))) fun v6_157 =>
            if v3 ≤ v6_157 then
              lt1 (w32 (v5 + 1)) fun v5_172 =>
              f_X10_laysCost_L66 n v1 v2 v3 v4 v5_172 M
            else
              lt1 (w32 (v5 + 1)) fun v5_172 =>
              f_X10_laysCost_L66 n v1 v2 v6_157 v5 v5_172 M
            else none
            else none
          else
            if (0 : Int) ≤ w32 ((w32 ((w32 (241 * v1)) + 241)) + v5) ∧ w32 ((w32 ((w32 (241 * v1)) + 241)) + v5) < 58081 then
            if (0 : Int) ≤ w32 ((w32 ((w32 (241 * v5)) + 241)) + v2) ∧ w32 ((w32 ((w32 (241 * v5)) + 241)) + v2) < 58081 then
            lt1 (w32 ((w32 ((M 90 13) + (M 98 (w32 ((w32 ((w32 (241 * v1)) + 241)) + v5))))) + (M 98 (w32 ((w32 ((w32 (241 * v5)) + 241)) + v2))))) fun v6_157 =>
            if v3 ≤ v6_157 then
              lt1 (w32 (v5 + 1)) fun v5_172 =>
              f_X10_laysCost_L66 n v1 v2 v3 v4 v5_172 M
            else
              lt1 (w32 (v5 + 1)) fun v5_172 =>
              f_X10_laysCost_L66 n v1 v2 v6_157 v5 v5_172 M
            else none
            else none
        else
          lt1 (w32 (v5 + 1)) fun v5_172 =>
          f_X10_laysCost_L66 n v1 v2 v3 v4 v5_172 M
        else none
      else none
def f_X10_laysCost (v1 : Int) (v2 : Int) (M : Mem) : Option (Mem) :=
  (f_X10_cost (w32 (v1 + 1)) v2 M).bind fun p12 =>
  lt1 (w32 ((M 90 11) + p12)) fun v3_16 =>
  (f_X10_cost (w32 (v1 + 1)) v2 M).bind fun p33 =>
  if v3_16 ≤ (w32 ((M 90 12) + p33)) then
    lt1 (w32 (v1 + 1)) fun v5_64 =>
    f_X10_laysCost_L66 4096 v1 v2 v3_16 (-2) v5_64 M
  else
    (f_X10_cost (w32 (v1 + 1)) v2 M).bind fun p53 =>
    lt1 (w32 ((M 90 12) + p53)) fun v3_57 =>
    lt1 (w32 (v1 + 1)) fun v5_64 =>
    f_X10_laysCost_L66 4096 v1 v2 v3_57 (-1) v5_64 M
set_option maxRecDepth 20000 in
theorem rn_X10_laysCost_K178 {G : Gl} (v1 : Int) (v2 : Int) (v3 : Int) (v4 : Int) (M : Mem) (res : Mem)  (hf : f_X10_laysCost_K178 v1 v2 v3 v4 M = some res) : Run G false (rmD 1 0 0) miX10_laysCost (ZP G none res) 0 0 178 [some (aR 84), some (aI v1), some (aI v2), some (aI v3), some (aI v4), none, none] [] M := by
  unfold f_X10_laysCost_K178 at hf
  refine R_aload_n dX10_laysCost_178 rfl rfl ?_
  refine R_getR dX10_laysCost_179 cl10 flX10_65 o_84 ff10_32 (fr10_32 _) a_98.1 ?_
  refine R_sipush dX10_laysCost_182 (v := 241) rfl ?_
  refine R_iload_n dX10_laysCost_185 rfl rfl ?_
  refine R_imul dX10_laysCost_186 rfl ?_
  refine R_iload_n dX10_laysCost_187 rfl rfl ?_
  refine R_iadd dX10_laysCost_188 rfl ?_
  refine R_iload_n dX10_laysCost_189 rfl rfl ?_
  obtain ⟨hg1, hf⟩ := gdE hf
  obtain ⟨M190, hM190, hf⟩ := ltE hf
  refine R_iastore dX10_laysCost_190 a_98 hg1.1 hg1.2 hM190 ?_
  refine R_aload_n dX10_laysCost_191 rfl rfl ?_
  refine R_getR dX10_laysCost_192 cl10 flX10_68 o_84 ff10_33 (fr10_33 _) a_99.1 ?_
  refine R_sipush dX10_laysCost_195 (v := 241) rfl ?_
  refine R_iload_n dX10_laysCost_198 rfl rfl ?_
  refine R_imul dX10_laysCost_199 rfl ?_
  refine R_iload_n dX10_laysCost_200 rfl rfl ?_
  refine R_iadd dX10_laysCost_201 rfl ?_
  refine R_iload dX10_laysCost_202 rfl ?_
  obtain ⟨M204, hM204, hf⟩ := ltE hf
  refine R_iastore dX10_laysCost_204 a_99 hg1.1 hg1.2 hM204 ?_
  cases hf; exact E_vret dX10_laysCost_205 rfl rfl rfl
set_option maxRecDepth 20000 in
theorem rn_X10_laysCost_L66 {G : Gl} : ∀ (n : Nat) (v1 : Int) (v2 : Int) (v3 : Int) (v4 : Int) (v5 : Int) (M : Mem) (res : Mem),  f_X10_laysCost_L66 n v1 v2 v3 v4 v5 M = some res → Run G false (rmD 1 0 0) miX10_laysCost (ZP G none res) 0 0 66 [some (aR 84), some (aI v1), some (aI v2), some (aI v3), some (aI v4), some (aI v5), none] [] M := by
  intro n
  induction n with
  | zero => intro v1 v2 v3 v4 v5 M res  hf; cases hf
  | succ n ih =>
    intro v1 v2 v3 v4 v5 M res  hf
    rw [f_X10_laysCost_L66] at hf
    refine R_iload dX10_laysCost_66 rfl ?_
    refine R_iload_n dX10_laysCost_68 rfl rfl ?_
    refine R_icmp_ge dX10_laysCost_69 rfl (fun h69 => ?_) (fun h69 => ?_)
    · replace hf := iposE hf h69
      exact R_subk (rn_X10_laysCost_K178 _ _ _ _ _ _  hf) ⟨rfl, rfl, rfl, rfl, rfl, trivial⟩
    · replace hf := inegE hf h69
      refine R_aload_n dX10_laysCost_72 rfl rfl ?_
      refine R_getR dX10_laysCost_73 cl10 flX10_54 o_84 ff10_29 (fr10_29 _) a_95.1 ?_
      refine R_iload_n dX10_laysCost_76 rfl rfl ?_
      obtain ⟨hg2, hf⟩ := gdE hf
      refine R_zaload dX10_laysCost_77 a_95 hg2.1 hg2.2 rfl ?_
      refine R_if_eq dX10_laysCost_78 rfl (fun h78 => ?_) (fun h78 => ?_)
      · replace hf := iposE hf h78
        exact R_subk (rn_X10_laysCost_K178 _ _ _ _ _ _  hf) ⟨rfl, rfl, rfl, rfl, rfl, trivial⟩
      · replace hf := inegE hf h78
        refine R_aload_n dX10_laysCost_81 rfl rfl ?_
        refine R_getR dX10_laysCost_82 cl10 flX10_54 o_84 ff10_29 (fr10_29 _) a_95.1 ?_
        refine R_iload dX10_laysCost_85 rfl ?_
        obtain ⟨hg3, hf⟩ := gdE hf
        refine R_zaload dX10_laysCost_87 a_95 hg3.1 hg3.2 rfl ?_
        refine R_if_eq dX10_laysCost_88 rfl (fun h88 => ?_) (fun h88 => ?_)
        · replace hf := iposE hf h88
          refine R_aload_n dX10_laysCost_94 rfl rfl ?_
          refine R_getR dX10_laysCost_95 cl10 flX10_51 o_84 ff10_28 (fr10_28 _) a_94.1 ?_
          refine R_iload dX10_laysCost_98 rfl ?_
          refine R_iaload dX10_laysCost_100 a_94 hg3.1 hg3.2 rfl ?_
          refine R_aload_n dX10_laysCost_101 rfl rfl ?_
          refine R_getR dX10_laysCost_102 cl10 flX10_51 o_84 ff10_28 (fr10_28 _) a_94.1 ?_
          refine R_iload_n dX10_laysCost_105 rfl rfl ?_
          refine R_iaload dX10_laysCost_106 a_94 hg2.1 hg2.2 rfl ?_
          refine R_icmp_ne dX10_laysCost_107 rfl (fun h107 => ?_) (fun h107 => ?_)
          · replace hf := inegE hf h107
            refine R_aload_n dX10_laysCost_114 rfl rfl ?_
            refine R_getR dX10_laysCost_115 cl10 flX10_35 o_84 ff10_14 (fr10_14 _) a_90.1 ?_
            refine R_bipush dX10_laysCost_118 (v := 13) rfl ?_
            refine R_iaload dX10_laysCost_120 a_90 (by decide) (by decide) rfl ?_
            refine R_aload_n dX10_laysCost_121 rfl rfl ?_
            refine R_getR dX10_laysCost_122 cl10 flX10_65 o_84 ff10_32 (fr10_32 _) a_98.1 ?_
            refine R_sipush dX10_laysCost_125 (v := 241) rfl ?_
            refine R_iload_n dX10_laysCost_128 rfl rfl ?_
            refine R_imul dX10_laysCost_129 rfl ?_
            refine R_sipush dX10_laysCost_130 (v := 241) rfl ?_
            refine R_iadd dX10_laysCost_133 rfl ?_
            refine R_iload dX10_laysCost_134 rfl ?_
            refine R_iadd dX10_laysCost_136 rfl ?_
            obtain ⟨hg4, hf⟩ := gdE hf
            refine R_iaload dX10_laysCost_137 a_98 hg4.1 hg4.2 rfl ?_
            refine R_iadd dX10_laysCost_138 rfl ?_
            refine R_aload_n dX10_laysCost_139 rfl rfl ?_
            refine R_getR dX10_laysCost_140 cl10 flX10_65 o_84 ff10_32 (fr10_32 _) a_98.1 ?_
            refine R_sipush dX10_laysCost_143 (v := 241) rfl ?_
            refine R_iload dX10_laysCost_146 rfl ?_
            refine R_imul dX10_laysCost_148 rfl ?_
            refine R_sipush dX10_laysCost_149 (v := 241) rfl ?_
            refine R_iadd dX10_laysCost_152 rfl ?_
            refine R_iload_n dX10_laysCost_153 rfl rfl ?_
            refine R_iadd dX10_laysCost_154 rfl ?_
            obtain ⟨hg5, hf⟩ := gdE hf
            refine R_iaload dX10_laysCost_155 a_98 hg5.1 hg5.2 rfl ?_
            refine R_iadd dX10_laysCost_156 rfl ?_
            obtain ⟨v6_157, hv6_157, hf⟩ := ltE hf
            refine R_istore dX10_laysCost_157 (by decide) hv6_157 rfl ?_
            refine R_iload dX10_laysCost_159 rfl ?_
            refine R_iload_n dX10_laysCost_161 rfl rfl ?_
            refine R_icmp_ge dX10_laysCost_162 rfl (fun h162 => ?_) (fun h162 => ?_)
            · replace hf := iposE hf h162
              obtain ⟨v5_172, hv5_172, hf⟩ := ltE hf
              refine R_iinc dX10_laysCost_172 rfl rfl hv5_172 (by decide) rfl ?_
              refine R_goto dX10_laysCost_175 rfl ?_
              exact R_subk (ih _ _ _ _ _ _ _  hf) ⟨rfl, rfl, rfl, rfl, rfl, rfl, trivial⟩
            · replace hf := inegE hf h162
              refine R_iload dX10_laysCost_165 rfl ?_
              refine R_istore_n dX10_laysCost_167 rfl (by decide) rfl rfl ?_
              refine R_iload dX10_laysCost_168 rfl ?_
              refine R_istore dX10_laysCost_170 (by decide) rfl rfl ?_
              obtain ⟨v5_172, hv5_172, hf⟩ := ltE hf
              refine R_iinc dX10_laysCost_172 rfl rfl hv5_172 (by decide) rfl ?_
              refine R_goto dX10_laysCost_175 rfl ?_
              exact R_subk (ih _ _ _ _ _ _ _  hf) ⟨rfl, rfl, rfl, rfl, rfl, rfl, trivial⟩
          · replace hf := iposE hf h107
            refine R_iconst dX10_laysCost_110 (v := 0) rfl ?_
            refine R_goto dX10_laysCost_111 rfl ?_
            refine R_aload_n dX10_laysCost_121 rfl rfl ?_
            refine R_getR dX10_laysCost_122 cl10 flX10_65 o_84 ff10_32 (fr10_32 _) a_98.1 ?_
            refine R_sipush dX10_laysCost_125 (v := 241) rfl ?_
            refine R_iload_n dX10_laysCost_128 rfl rfl ?_
            refine R_imul dX10_laysCost_129 rfl ?_
            refine R_sipush dX10_laysCost_130 (v := 241) rfl ?_
            refine R_iadd dX10_laysCost_133 rfl ?_
            refine R_iload dX10_laysCost_134 rfl ?_
            refine R_iadd dX10_laysCost_136 rfl ?_
            obtain ⟨hg6, hf⟩ := gdE hf
            refine R_iaload dX10_laysCost_137 a_98 hg6.1 hg6.2 rfl ?_
            refine R_iadd dX10_laysCost_138 rfl ?_
            refine R_aload_n dX10_laysCost_139 rfl rfl ?_
            refine R_getR dX10_laysCost_140 cl10 flX10_65 o_84 ff10_32 (fr10_32 _) a_98.1 ?_
            refine R_sipush dX10_laysCost_143 (v := 241) rfl ?_
            refine R_iload dX10_laysCost_146 rfl ?_
            refine R_imul dX10_laysCost_148 rfl ?_
            refine R_sipush dX10_laysCost_149 (v := 241) rfl ?_
            refine R_iadd dX10_laysCost_152 rfl ?_
            refine R_iload_n dX10_laysCost_153 rfl rfl ?_
            refine R_iadd dX10_laysCost_154 rfl ?_
            obtain ⟨hg7, hf⟩ := gdE hf
            refine R_iaload dX10_laysCost_155 a_98 hg7.1 hg7.2 rfl ?_
            refine R_iadd dX10_laysCost_156 rfl ?_
            obtain ⟨v6_157, hv6_157, hf⟩ := ltE hf
            refine R_istore dX10_laysCost_157 (by decide) hv6_157 rfl ?_
            refine R_iload dX10_laysCost_159 rfl ?_
            refine R_iload_n dX10_laysCost_161 rfl rfl ?_
            refine R_icmp_ge dX10_laysCost_162 rfl (fun h162 => ?_) (fun h162 => ?_)
            · replace hf := iposE hf h162
              obtain ⟨v5_172, hv5_172, hf⟩ := ltE hf
              refine R_iinc dX10_laysCost_172 rfl rfl hv5_172 (by decide) rfl ?_
              refine R_goto dX10_laysCost_175 rfl ?_
              exact R_subk (ih _ _ _ _ _ _ _  hf) ⟨rfl, rfl, rfl, rfl, rfl, rfl, trivial⟩
            · replace hf := inegE hf h162
              refine R_iload dX10_laysCost_165 rfl ?_
              refine R_istore_n dX10_laysCost_167 rfl (by decide) rfl rfl ?_
              refine R_iload dX10_laysCost_168 rfl ?_
              refine R_istore dX10_laysCost_170 (by decide) rfl rfl ?_
              obtain ⟨v5_172, hv5_172, hf⟩ := ltE hf
              refine R_iinc dX10_laysCost_172 rfl rfl hv5_172 (by decide) rfl ?_
              refine R_goto dX10_laysCost_175 rfl ?_
              exact R_subk (ih _ _ _ _ _ _ _  hf) ⟨rfl, rfl, rfl, rfl, rfl, rfl, trivial⟩
        · replace hf := inegE hf h88
          refine R_goto dX10_laysCost_91 rfl ?_
          obtain ⟨v5_172, hv5_172, hf⟩ := ltE hf
          refine R_iinc dX10_laysCost_172 rfl rfl hv5_172 (by decide) rfl ?_
          refine R_goto dX10_laysCost_175 rfl ?_
          exact R_subk (ih _ _ _ _ _ _ _  hf) ⟨rfl, rfl, rfl, rfl, rfl, rfl, trivial⟩
set_option maxRecDepth 20000 in
theorem ct_X10_laysCost {G : Gl} (v1 : Int) (v2 : Int) (M : Mem) {res : Mem}  (hf : f_X10_laysCost v1 v2 M = some res) : Ct G miX10_laysCost yX10_laysCost 1 [aR 84, aI v1, aI v2] M none res := by
  refine Ct.of (L := [some (aR 84), some (aI v1), some (aI v2), none, none, none, none]) mwX10_laysCost rfl trivial nle ⟨rfl, rfl, rfl, trivial⟩ ?_
  unfold f_X10_laysCost at hf
  refine R_aload_n dX10_laysCost_0 rfl rfl ?_
  refine R_getR dX10_laysCost_1 cl10 flX10_35 o_84 ff10_14 (fr10_14 _) a_90.1 ?_
  refine R_bipush dX10_laysCost_4 (v := 11) rfl ?_
  refine R_iaload dX10_laysCost_6 a_90 (by decide) (by decide) rfl ?_
  refine R_aload_n dX10_laysCost_7 rfl rfl ?_
  refine R_iload_n dX10_laysCost_8 rfl rfl ?_
  refine R_iconst dX10_laysCost_9 (v := 1) rfl ?_
  refine R_iadd dX10_laysCost_10 rfl ?_
  refine R_iload_n dX10_laysCost_11 rfl rfl ?_
  obtain ⟨p12, hp12, hf⟩ := bdE hf
  refine R_callV (As := [aI (w32 (v1 + 1)), aI v2]) (st := [aI (M 90 11)]) dX10_laysCost_12 (ct_X10_cost _ _ _  hp12) mwX10_cost mvX10_cost mlX10_337 cl10 o_84 rfl rfl ⟨nle, nle, nle, nle⟩ nle rfl ?_
  refine R_iadd dX10_laysCost_15 rfl ?_
  obtain ⟨v3_16, hv3_16, hf⟩ := ltE hf
  refine R_istore_n dX10_laysCost_16 rfl (by decide) hv3_16 rfl ?_
  refine R_bipush dX10_laysCost_17 (v := (-2)) rfl ?_
  refine R_istore dX10_laysCost_19 (by decide) rfl rfl ?_
  refine R_aload_n dX10_laysCost_21 rfl rfl ?_
  refine R_getR dX10_laysCost_22 cl10 flX10_35 o_84 ff10_14 (fr10_14 _) a_90.1 ?_
  refine R_bipush dX10_laysCost_25 (v := 12) rfl ?_
  refine R_iaload dX10_laysCost_27 a_90 (by decide) (by decide) rfl ?_
  refine R_aload_n dX10_laysCost_28 rfl rfl ?_
  refine R_iload_n dX10_laysCost_29 rfl rfl ?_
  refine R_iconst dX10_laysCost_30 (v := 1) rfl ?_
  refine R_iadd dX10_laysCost_31 rfl ?_
  refine R_iload_n dX10_laysCost_32 rfl rfl ?_
  obtain ⟨p33, hp33, hf⟩ := bdE hf
  refine R_callV (As := [aI (w32 (v1 + 1)), aI v2]) (st := [aI (M 90 12)]) dX10_laysCost_33 (ct_X10_cost _ _ _  hp33) mwX10_cost mvX10_cost mlX10_337 cl10 o_84 rfl rfl ⟨nle, nle, nle, nle⟩ nle rfl ?_
  refine R_iadd dX10_laysCost_36 rfl ?_
  refine R_iload_n dX10_laysCost_37 rfl rfl ?_
  refine R_icmp_ge dX10_laysCost_38 rfl (fun h38 => ?_) (fun h38 => ?_)
  · replace hf := iposE hf h38
    refine R_iload_n dX10_laysCost_61 rfl rfl ?_
    refine R_iconst dX10_laysCost_62 (v := 1) rfl ?_
    refine R_iadd dX10_laysCost_63 rfl ?_
    obtain ⟨v5_64, hv5_64, hf⟩ := ltE hf
    refine R_istore dX10_laysCost_64 (by decide) hv5_64 rfl ?_
    exact R_subk (rn_X10_laysCost_L66 4096 _ _ _ _ _ _ _  hf) ⟨rfl, rfl, rfl, rfl, rfl, rfl, trivial⟩
  · replace hf := inegE hf h38
    refine R_aload_n dX10_laysCost_41 rfl rfl ?_
    refine R_getR dX10_laysCost_42 cl10 flX10_35 o_84 ff10_14 (fr10_14 _) a_90.1 ?_
    refine R_bipush dX10_laysCost_45 (v := 12) rfl ?_
    refine R_iaload dX10_laysCost_47 a_90 (by decide) (by decide) rfl ?_
    refine R_aload_n dX10_laysCost_48 rfl rfl ?_
    refine R_iload_n dX10_laysCost_49 rfl rfl ?_
    refine R_iconst dX10_laysCost_50 (v := 1) rfl ?_
    refine R_iadd dX10_laysCost_51 rfl ?_
    refine R_iload_n dX10_laysCost_52 rfl rfl ?_
    obtain ⟨p53, hp53, hf⟩ := bdE hf
    refine R_callV (As := [aI (w32 (v1 + 1)), aI v2]) (st := [aI (M 90 12)]) dX10_laysCost_53 (ct_X10_cost _ _ _  hp53) mwX10_cost mvX10_cost mlX10_337 cl10 o_84 rfl rfl ⟨nle, nle, nle, nle⟩ nle rfl ?_
    refine R_iadd dX10_laysCost_56 rfl ?_
    obtain ⟨v3_57, hv3_57, hf⟩ := ltE hf
    refine R_istore_n dX10_laysCost_57 rfl (by decide) hv3_57 rfl ?_
    refine R_iconst dX10_laysCost_58 (v := (-1)) rfl ?_
    refine R_istore dX10_laysCost_59 (by decide) rfl rfl ?_
    refine R_iload_n dX10_laysCost_61 rfl rfl ?_
    refine R_iconst dX10_laysCost_62 (v := 1) rfl ?_
    refine R_iadd dX10_laysCost_63 rfl ?_
    obtain ⟨v5_64, hv5_64, hf⟩ := ltE hf
    refine R_istore dX10_laysCost_64 (by decide) hv5_64 rfl ?_
    exact R_subk (rn_X10_laysCost_L66 4096 _ _ _ _ _ _ _  hf) ⟨rfl, rfl, rfl, rfl, rfl, rfl, trivial⟩
/-! BracketHallModel.laysCosts()V -/
def f_X10_laysCosts_L26 (k : Int → Mem → Option (Mem)) : Nat → Int → Int → Mem → Option (Mem)
  | 0, _, _, _ => none
  | n + 1, v1, v2, M =>
    if (M 84 26) < v2 then
      k v1 M
    else
      (f_X10_laysCost v1 v2 M).bind fun p37 =>
      lt1 (w32 (v2 + 1)) fun v2_40 =>
      f_X10_laysCosts_L26 k n v1 v2_40 p37
def f_X10_laysCosts_L5 : Nat → Int → Mem → Option (Mem)
  | 0, _, _ => none
  | n + 1, v1, M =>
    if v1 < 0 then
      some M
    else
      if (0 : Int) ≤ w32 ((w32 (241 * v1)) + v1) ∧ w32 ((w32 (241 * v1)) + v1) < 58081 then
      lt1 (up M 98 (w32 ((w32 (241 * v1)) + v1)) 0) fun M21 =>
      lt1 (w32 (v1 + 1)) fun v2_25 =>
      f_X10_laysCosts_L26 (fun v1 M =>
      lt1 (w32 (v1 + (-1))) fun v1_46 =>
      f_X10_laysCosts_L5 n v1_46 M) 4096 v1 v2_25 M21
      else none
def f_X10_laysCosts  (M : Mem) : Option (Mem) :=
  lt1 (M 84 26) fun v1_4 =>
  f_X10_laysCosts_L5 4096 v1_4 M
set_option maxRecDepth 20000 in
theorem rn_X10_laysCosts_L26 {G : Gl} (k : Int → Mem → Option (Mem)) (hk : ∀ (v1 : Int) (M : Mem) (res : Mem), k v1 M = some res → Run G false (rmD 2 0 0) miX10_laysCosts (ZP G none res) 0 0 46 [some (aR 84), some (aI v1), none] [] M) : ∀ (n : Nat) (v1 : Int) (v2 : Int) (M : Mem) (res : Mem),  f_X10_laysCosts_L26 k n v1 v2 M = some res → Run G false (rmD 2 0 0) miX10_laysCosts (ZP G none res) 0 0 26 [some (aR 84), some (aI v1), some (aI v2)] [] M := by
  intro n
  induction n with
  | zero => intro v1 v2 M res  hf; cases hf
  | succ n ih =>
    intro v1 v2 M res  hf
    rw [f_X10_laysCosts_L26] at hf
    refine R_iload_n dX10_laysCosts_26 rfl rfl ?_
    refine R_aload_n dX10_laysCosts_27 rfl rfl ?_
    refine R_getI (ki := 26) dX10_laysCosts_28 cl10 flX10_264 o_84 ff10_26 rfl rfl ?_
    refine R_icmp_gt dX10_laysCosts_31 rfl (fun h31 => ?_) (fun h31 => ?_)
    · replace hf := iposE hf h31
      exact R_subk (hk _ _ _  hf) ⟨rfl, rfl, trivial⟩
    · replace hf := inegE hf h31
      refine R_aload_n dX10_laysCosts_34 rfl rfl ?_
      refine R_iload_n dX10_laysCosts_35 rfl rfl ?_
      refine R_iload_n dX10_laysCosts_36 rfl rfl ?_
      obtain ⟨p37, hp37, hf⟩ := bdE hf
      refine R_callV (As := [aI v1, aI v2]) (st := []) dX10_laysCosts_37 (ct_X10_laysCost _ _ _  hp37) mwX10_laysCost mvX10_laysCost mlX10_334 cl10 o_84 rfl rfl ⟨nle, nle, nle, nle⟩ nle rfl ?_
      obtain ⟨v2_40, hv2_40, hf⟩ := ltE hf
      refine R_iinc dX10_laysCosts_40 rfl rfl hv2_40 (by decide) rfl ?_
      refine R_goto dX10_laysCosts_43 rfl ?_
      exact R_subk (ih _ _ _ _  hf) ⟨rfl, rfl, rfl, trivial⟩
set_option maxRecDepth 20000 in
theorem rn_X10_laysCosts_L5 {G : Gl} : ∀ (n : Nat) (v1 : Int) (M : Mem) (res : Mem),  f_X10_laysCosts_L5 n v1 M = some res → Run G false (rmD 2 0 0) miX10_laysCosts (ZP G none res) 0 0 5 [some (aR 84), some (aI v1), none] [] M := by
  intro n
  induction n with
  | zero => intro v1 M res  hf; cases hf
  | succ n ih =>
    intro v1 M res  hf
    rw [f_X10_laysCosts_L5] at hf
    refine R_iload_n dX10_laysCosts_5 rfl rfl ?_
    refine R_if_lt dX10_laysCosts_6 rfl (fun h6 => ?_) (fun h6 => ?_)
    · replace hf := iposE hf h6
      cases hf; exact E_vret dX10_laysCosts_52 rfl rfl rfl
    · replace hf := inegE hf h6
      refine R_aload_n dX10_laysCosts_9 rfl rfl ?_
      refine R_getR dX10_laysCosts_10 cl10 flX10_65 o_84 ff10_32 (fr10_32 _) a_98.1 ?_
      refine R_sipush dX10_laysCosts_13 (v := 241) rfl ?_
      refine R_iload_n dX10_laysCosts_16 rfl rfl ?_
      refine R_imul dX10_laysCosts_17 rfl ?_
      refine R_iload_n dX10_laysCosts_18 rfl rfl ?_
      refine R_iadd dX10_laysCosts_19 rfl ?_
      refine R_iconst dX10_laysCosts_20 (v := 0) rfl ?_
      obtain ⟨hg1, hf⟩ := gdE hf
      obtain ⟨M21, hM21, hf⟩ := ltE hf
      refine R_iastore dX10_laysCosts_21 a_98 hg1.1 hg1.2 hM21 ?_
      refine R_iload_n dX10_laysCosts_22 rfl rfl ?_
      refine R_iconst dX10_laysCosts_23 (v := 1) rfl ?_
      refine R_iadd dX10_laysCosts_24 rfl ?_
      obtain ⟨v2_25, hv2_25, hf⟩ := ltE hf
      refine R_istore_n dX10_laysCosts_25 rfl (by decide) hv2_25 rfl ?_
      refine R_subk (rn_X10_laysCosts_L26 _ (fun v1 M res  hf => ?_) 4096 _ _ _ _  hf) ⟨rfl, rfl, rfl, trivial⟩
      obtain ⟨v1_46, hv1_46, hf⟩ := ltE hf
      refine R_iinc dX10_laysCosts_46 rfl rfl hv1_46 (by decide) rfl ?_
      refine R_goto dX10_laysCosts_49 rfl ?_
      exact R_subk (ih _ _ _  hf) ⟨rfl, rfl, trivial⟩
set_option maxRecDepth 20000 in
theorem ct_X10_laysCosts {G : Gl}  (M : Mem) {res : Mem}  (hf : f_X10_laysCosts  M = some res) : Ct G miX10_laysCosts yX10_laysCosts 2 [aR 84] M none res := by
  refine Ct.of (L := [some (aR 84), none, none]) mwX10_laysCosts rfl trivial nle ⟨rfl, trivial⟩ ?_
  unfold f_X10_laysCosts at hf
  refine R_aload_n dX10_laysCosts_0 rfl rfl ?_
  refine R_getI (ki := 26) dX10_laysCosts_1 cl10 flX10_264 o_84 ff10_26 rfl rfl ?_
  obtain ⟨v1_4, hv1_4, hf⟩ := ltE hf
  refine R_istore_n dX10_laysCosts_4 rfl (by decide) hv1_4 rfl ?_
  exact R_subk (rn_X10_laysCosts_L5 4096 _ _ _  hf) ⟨rfl, rfl, trivial⟩
/-! BracketHallModel.costOf(I)I -/
def f_X10_costOf (v1 : Int) (M : Mem) : Option (Int × Mem) :=
  (f_X10_finds v1 M).bind fun p2 =>
  (f_X10_laysCosts p2).bind fun p6 =>
  (f_X10_cost 0 (p6 84 26) p6).bind fun p15 =>
  some (p15, p6)
set_option maxRecDepth 20000 in
theorem ct_X10_costOf {G : Gl} (v1 : Int) (M : Mem) {res : Int × Mem}  (hf : f_X10_costOf v1 M = some res) : Ct G miX10_costOf yX10_costOf 3 [aR 84, aI v1] M (some (aI res.1)) res.2 := by
  refine Ct.of (L := [some (aR 84), some (aI v1)]) mwX10_costOf rfl trivial nle ⟨rfl, rfl, trivial⟩ ?_
  unfold f_X10_costOf at hf
  refine R_aload_n dX10_costOf_0 rfl rfl ?_
  refine R_iload_n dX10_costOf_1 rfl rfl ?_
  obtain ⟨p2, hp2, hf⟩ := bdE hf
  refine R_callV (As := [aI v1]) (st := []) dX10_costOf_2 (ct_X10_finds _ _  hp2) mwX10_finds mvX10_finds mlX10_261 cl10 o_84 rfl rfl ⟨nle, nle, nle, nle⟩ nle rfl ?_
  refine R_aload_n dX10_costOf_5 rfl rfl ?_
  obtain ⟨p6, hp6, hf⟩ := bdE hf
  refine R_callV (As := []) (st := []) dX10_costOf_6 (ct_X10_laysCosts  _  hp6) mwX10_laysCosts mvX10_laysCosts mlX10_340 cl10 o_84 rfl rfl ⟨nle, nle, nle, nle⟩ nle rfl ?_
  refine R_aload_n dX10_costOf_9 rfl rfl ?_
  refine R_iconst dX10_costOf_10 (v := 0) rfl ?_
  refine R_aload_n dX10_costOf_11 rfl rfl ?_
  refine R_getI (ki := 26) dX10_costOf_12 cl10 flX10_264 o_84 ff10_26 rfl rfl ?_
  obtain ⟨p15, hp15, hf⟩ := bdE hf
  refine R_callV (As := [aI 0, aI (p6 84 26)]) (st := []) dX10_costOf_15 (ct_X10_cost _ _ _  hp15) mwX10_cost mvX10_cost mlX10_337 cl10 o_84 rfl rfl ⟨nle, nle, nle, nle⟩ nle rfl ?_
  cases hf; exact E_iret dX10_costOf_18 rfl rfl rfl
/-! BracketHallModel.laysRepair()I -/
def f_X10_laysRepair_L25 : Nat → Int → Int → Mem → Option (Int × Mem)
  | 0, _, _, _ => none
  | n + 1, v1, v2, M =>
    if v2 ≤ 0 then
      some (v1, M)
    else
      lt1 (w32 (v2 + (-1))) fun v2_29 =>
      if (0 : Int) ≤ v2_29 ∧ v2_29 < 500 then
      lt1 (M 102 v2_29) fun v3_38 =>
      lt1 (M 103 v2_29) fun v4_45 =>
      if v3_38 = v4_45 then
        f_X10_laysRepair_L25 n v1 v2_29 M
      else
        if (0 : Int) ≤ w32 ((w32 (241 * v3_38)) + v4_45) ∧ w32 ((w32 (241 * v3_38)) + v4_45) < 58081 then
        lt1 (M 99 (w32 ((w32 (241 * v3_38)) + v4_45))) fun v5_69 =>
        if v5_69 = (-2) then
          if (0 : Int) ≤ v3_38 ∧ v3_38 < 240 then
          lt1 (up M 100 v3_38 0) fun M98 =>
          lt1 (up M98 101 v3_38 (M98 94 v3_38)) fun M110 =>
          if 0 ≤ v5_69 then
            lt1 (up M110 102 v2_29 (w32 (v5_69 + 1))) fun M131 =>
            lt1 (up M131 103 v2_29 v4_45) fun M139 =>
            lt1 (w32 (v2_29 + 1)) fun v2_140 =>
            if v5_69 < 0 then
              f_X10_laysRepair_L25 n v1 v2_140 M139
            else
              if (0 : Int) ≤ v5_69 ∧ v5_69 < 240 then
              if (M139 94 v5_69) = (M139 94 v3_38) then
                lt1 (up M139 100 v5_69 (-1)) fun M175 =>
                lt1 (up M175 101 v5_69 (M175 94 v3_38)) fun M188 =>
                if (0 : Int) ≤ v2_140 ∧ v2_140 < 500 then
                lt1 (up M188 102 v2_140 (w32 (v3_38 + 1))) fun M197 =>
                lt1 (up M197 103 v2_140 v5_69) fun M205 =>
                lt1 (w32 (v2_140 + 1)) fun v2_206 =>
                f_X10_laysRepair_L25 n v1 v2_206 M205
                else none
              else
                lt1 (up M139 100 v5_69 2) fun M175 =>
                lt1 (up M175 101 v5_69 (M175 94 v3_38)) fun M188 =>
                if (0 : Int) ≤ v2_140 ∧ v2_140 < 500 then
                lt1 (up M188 102 v2_140 (w32 (v3_38 + 1))) fun M197 =>
                lt1 (up M197 103 v2_140 v5_69) fun M205 =>
                lt1 (w32 (v2_140 + 1)) fun v2_206 =>
                f_X10_laysRepair_L25 n v1 v2_206 M205
                else none
              else none
          else
            lt1 (up M110 102 v2_29 (w32 (v3_38 + 1))) fun M131 =>
            lt1 (up M131 103 v2_29 v4_45) fun M139 =>
            lt1 (w32 (v2_29 + 1)) fun v2_140 =>
            if v5_69 < 0 then
              f_X10_laysRepair_L25 n v1 v2_140 M139
            else
              if (0 : Int) ≤ v5_69 ∧ v5_69 < 240 then
              if (M139 94 v5_69) = (M139 94 v3_38) then
                lt1 (up M139 100 v5_69 (-1)) fun M175 =>
                lt1 (up M175 101 v5_69 (M175 94 v3_38)) fun M188 =>
                if (0 : Int) ≤ v2_140 ∧ v2_140 < 500 then
                lt1 (up M188 102 v2_140 (w32 (v3_38 + 1))) fun M197 =>
                lt1 (up M197 103 v2_140 v5_69) fun M205 =>
                lt1 (w32 (v2_140 + 1)) fun v2_206 =>
                f_X10_laysRepair_L25 n v1 v2_206 M205
                else none
              else
                lt1 (up M139 100 v5_69 2) fun M175 =>
                lt1 (up M175 101 v5_69 (M175 94 v3_38)) fun M188 =>
                if (0 : Int) ≤ v2_140 ∧ v2_140 < 500 then
                lt1 (up M188 102 v2_140 (w32 (v3_38 + 1))) fun M197 =>
                lt1 (up M197 103 v2_140 v5_69) fun M205 =>
                lt1 (w32 (v2_140 + 1)) fun v2_206 =>
                f_X10_laysRepair_L25 n v1 v2_206 M205
                else none
              else none
          else none
        else
          if v5_69 = (-1) then
            if (0 : Int) ≤ v3_38 ∧ v3_38 < 240 then
            lt1 (up M 100 v3_38 1) fun M98 =>
            lt1 (up M98 101 v3_38 (M98 94 v3_38)) fun M110 =>
            if 0 ≤ v5_69 then
              lt1 (up M110 102 v2_29 (w32 (v5_69 + 1))) fun M131 =>
              lt1 (up M131 103 v2_29 v4_45) fun M139 =>
              lt1 (w32 (v2_29 + 1)) fun v2_140 =>
              if v5_69 < 0 then
                f_X10_laysRepair_L25 n v1 v2_140 M139
              else
                if (0 : Int) ≤ v5_69 ∧ v5_69 < 240 then
                if (M139 94 v5_69) = (M139 94 v3_38) then
                  lt1 (up M139 100 v5_69 (-1)) fun M175 =>
                  lt1 (up M175 101 v5_69 (M175 94 v3_38)) fun M188 =>
                  if (0 : Int) ≤ v2_140 ∧ v2_140 < 500 then
                  lt1 (up M188 102 v2_140 (w32 (v3_38 + 1))) fun M197 =>
                  lt1 (up M197 103 v2_140 v5_69) fun M205 =>
                  lt1 (w32 (v2_140 + 1)) fun v2_206 =>
                  f_X10_laysRepair_L25 n v1 v2_206 M205
                  else none
                else
                  lt1 (up M139 100 v5_69 2) fun M175 =>
                  lt1 (up M175 101 v5_69 (M175 94 v3_38)) fun M188 =>
                  if (0 : Int) ≤ v2_140 ∧ v2_140 < 500 then
                  lt1 (up M188 102 v2_140 (w32 (v3_38 + 1))) fun M197 =>
                  lt1 (up M197 103 v2_140 v5_69) fun M205 =>
                  lt1 (w32 (v2_140 + 1)) fun v2_206 =>
                  f_X10_laysRepair_L25 n v1 v2_206 M205
                  else none
                else none
            else
              lt1 (up M110 102 v2_29 (w32 (v3_38 + 1))) fun M131 =>
              lt1 (up M131 103 v2_29 v4_45) fun M139 =>
              lt1 (w32 (v2_29 + 1)) fun v2_140 =>
              if v5_69 < 0 then
                f_X10_laysRepair_L25 n v1 v2_140 M139
              else
                if (0 : Int) ≤ v5_69 ∧ v5_69 < 240 then
                if (M139 94 v5_69) = (M139 94 v3_38) then
                  lt1 (up M139 100 v5_69 (-1)) fun M175 =>
                  lt1 (up M175 101 v5_69 (M175 94 v3_38)) fun M188 =>
                  if (0 : Int) ≤ v2_140 ∧ v2_140 < 500 then
                  lt1 (up M188 102 v2_140 (w32 (v3_38 + 1))) fun M197 =>
                  lt1 (up M197 103 v2_140 v5_69) fun M205 =>
                  lt1 (w32 (v2_140 + 1)) fun v2_206 =>
                  f_X10_laysRepair_L25 n v1 v2_206 M205
                  else none
                else
                  lt1 (up M139 100 v5_69 2) fun M175 =>
                  lt1 (up M175 101 v5_69 (M175 94 v3_38)) fun M188 =>
                  if (0 : Int) ≤ v2_140 ∧ v2_140 < 500 then
                  lt1 (up M188 102 v2_140 (w32 (v3_38 + 1))) fun M197 =>
                  lt1 (up M197 103 v2_140 v5_69) fun M205 =>
                  lt1 (w32 (v2_140 + 1)) fun v2_206 =>
                  f_X10_laysRepair_L25 n v1 v2_206 M205
                  else none
                else none
            else none
          else
            if (0 : Int) ≤ v3_38 ∧ v3_38 < 240 then
            lt1 (up M 100 v3_38 (-1)) fun M98 =>
            lt1 (up M98 101 v3_38 (M98 94 v3_38)) fun M110 =>
            if 0 ≤ v5_69 then
              lt1 (up M110 102 v2_29 (w32 (v5_69 + 1))) fun M131 =>
              lt1 (up M131 103 v2_29 v4_45) fun M139 =>
              lt1 (w32 (v2_29 + 1)) fun v2_140 =>
              if v5_69 < 0 then
                f_X10_laysRepair_L25 n v1 v2_140 M139
              else
                if (0 : Int) ≤ v5_69 ∧ v5_69 < 240 then
                if (M139 94 v5_69) = (M139 94 v3_38) then
                  lt1 (up M139 100 v5_69 (-1)) fun M175 =>
                  lt1 (up M175 101 v5_69 (M175 94 v3_38)) fun M188 =>
                  if (0 : Int) ≤ v2_140 ∧ v2_140 < 500 then
                  lt1 (up M188 102 v2_140 (w32 (v3_38 + 1))) fun M197 =>
                  lt1 (up M197 103 v2_140 v5_69) fun M205 =>
                  lt1 (w32 (v2_140 + 1)) fun v2_206 =>
                  f_X10_laysRepair_L25 n v1 v2_206 M205
                  else none
                else
                  lt1 (up M139 100 v5_69 2) fun M175 =>
                  lt1 (up M175 101 v5_69 (M175 94 v3_38)) fun M188 =>
                  if (0 : Int) ≤ v2_140 ∧ v2_140 < 500 then
                  lt1 (up M188 102 v2_140 (w32 (v3_38 + 1))) fun M197 =>
                  lt1 (up M197 103 v2_140 v5_69) fun M205 =>
                  lt1 (w32 (v2_140 + 1)) fun v2_206 =>
                  f_X10_laysRepair_L25 n v1 v2_206 M205
                  else none
                else none
            else
              lt1 (up M110 102 v2_29 (w32 (v3_38 + 1))) fun M131 =>
              lt1 (up M131 103 v2_29 v4_45) fun M139 =>
              lt1 (w32 (v2_29 + 1)) fun v2_140 =>
              if v5_69 < 0 then
                f_X10_laysRepair_L25 n v1 v2_140 M139
              else
                if (0 : Int) ≤ v5_69 ∧ v5_69 < 240 then
                if (M139 94 v5_69) = (M139 94 v3_38) then
                  lt1 (up M139 100 v5_69 (-1)) fun M175 =>
                  lt1 (up M175 101 v5_69 (M175 94 v3_38)) fun M188 =>
                  if (0 : Int) ≤ v2_140 ∧ v2_140 < 500 then
                  lt1 (up M188 102 v2_140 (w32 (v3_38 + 1))) fun M197 =>
                  lt1 (up M197 103 v2_140 v5_69) fun M205 =>
                  lt1 (w32 (v2_140 + 1)) fun v2_206 =>
                  f_X10_laysRepair_L25 n v1 v2_206 M205
                  else none
                else
                  lt1 (up M139 100 v5_69 2) fun M175 =>
                  lt1 (up M175 101 v5_69 (M175 94 v3_38)) fun M188 =>
                  if (0 : Int) ≤ v2_140 ∧ v2_140 < 500 then
                  lt1 (up M188 102 v2_140 (w32 (v3_38 + 1))) fun M197 =>
                  lt1 (up M197 103 v2_140 v5_69) fun M205 =>
                  lt1 (w32 (v2_140 + 1)) fun v2_206 =>
                  f_X10_laysRepair_L25 n v1 v2_206 M205
                  else none
                else none
            else none
        else none
      else none
def f_X10_laysRepair  (M : Mem) : Option (Int × Mem) :=
  (f_X10_costOf (-1) M).bind fun p2 =>
  lt1 (p2.1) fun v1_5 =>
  lt1 (up p2.2 102 0 0) fun M14 =>
  lt1 (up M14 103 0 (M14 84 26)) fun M24 =>
  f_X10_laysRepair_L25 4096 v1_5 1 M24
set_option maxRecDepth 20000 in
theorem rn_X10_laysRepair_L25 {G : Gl} : ∀ (n : Nat) (v1 : Int) (v2 : Int) (M : Mem) (res : Int × Mem),  f_X10_laysRepair_L25 n v1 v2 M = some res → Run G false (rmD 4 0 0) miX10_laysRepair (ZP G (some (aI res.1)) res.2) 0 0 25 [some (aR 84), some (aI v1), some (aI v2), none, none, none] [] M := by
  intro n
  induction n with
  | zero => intro v1 v2 M res  hf; cases hf
  | succ n ih =>
    intro v1 v2 M res  hf
    rw [f_X10_laysRepair_L25] at hf
    refine R_iload_n dX10_laysRepair_25 rfl rfl ?_
    refine R_if_le dX10_laysRepair_26 rfl (fun h26 => ?_) (fun h26 => ?_)
    · replace hf := iposE hf h26
      refine R_iload_n dX10_laysRepair_212 rfl rfl ?_
      cases hf; exact E_iret dX10_laysRepair_213 rfl rfl rfl
    · replace hf := inegE hf h26
      obtain ⟨v2_29, hv2_29, hf⟩ := ltE hf
      refine R_iinc dX10_laysRepair_29 rfl rfl hv2_29 (by decide) rfl ?_
      refine R_aload_n dX10_laysRepair_32 rfl rfl ?_
      refine R_getR dX10_laysRepair_33 cl10 flX10_77 o_84 ff10_36 (fr10_36 _) a_102.1 ?_
      refine R_iload_n dX10_laysRepair_36 rfl rfl ?_
      obtain ⟨hg1, hf⟩ := gdE hf
      refine R_iaload dX10_laysRepair_37 a_102 hg1.1 hg1.2 rfl ?_
      obtain ⟨v3_38, hv3_38, hf⟩ := ltE hf
      refine R_istore_n dX10_laysRepair_38 rfl (by decide) hv3_38 rfl ?_
      refine R_aload_n dX10_laysRepair_39 rfl rfl ?_
      refine R_getR dX10_laysRepair_40 cl10 flX10_80 o_84 ff10_37 (fr10_37 _) a_103.1 ?_
      refine R_iload_n dX10_laysRepair_43 rfl rfl ?_
      refine R_iaload dX10_laysRepair_44 a_103 hg1.1 hg1.2 rfl ?_
      obtain ⟨v4_45, hv4_45, hf⟩ := ltE hf
      refine R_istore dX10_laysRepair_45 (by decide) hv4_45 rfl ?_
      refine R_iload_n dX10_laysRepair_47 rfl rfl ?_
      refine R_iload dX10_laysRepair_48 rfl ?_
      refine R_icmp_ne dX10_laysRepair_50 rfl (fun h50 => ?_) (fun h50 => ?_)
      · replace hf := inegE hf h50
        refine R_aload_n dX10_laysRepair_56 rfl rfl ?_
        refine R_getR dX10_laysRepair_57 cl10 flX10_68 o_84 ff10_33 (fr10_33 _) a_99.1 ?_
        refine R_sipush dX10_laysRepair_60 (v := 241) rfl ?_
        refine R_iload_n dX10_laysRepair_63 rfl rfl ?_
        refine R_imul dX10_laysRepair_64 rfl ?_
        refine R_iload dX10_laysRepair_65 rfl ?_
        refine R_iadd dX10_laysRepair_67 rfl ?_
        obtain ⟨hg2, hf⟩ := gdE hf
        refine R_iaload dX10_laysRepair_68 a_99 hg2.1 hg2.2 rfl ?_
        obtain ⟨v5_69, hv5_69, hf⟩ := ltE hf
        refine R_istore dX10_laysRepair_69 (by decide) hv5_69 rfl ?_
        refine R_aload_n dX10_laysRepair_71 rfl rfl ?_
        refine R_getR dX10_laysRepair_72 cl10 flX10_71 o_84 ff10_34 (fr10_34 _) a_100.1 ?_
        refine R_iload_n dX10_laysRepair_75 rfl rfl ?_
        refine R_iload dX10_laysRepair_76 rfl ?_
        refine R_bipush dX10_laysRepair_78 (v := (-2)) rfl ?_
        refine R_icmp_ne dX10_laysRepair_80 rfl (fun h80 => ?_) (fun h80 => ?_)
        · replace hf := inegE hf h80
          refine R_iload dX10_laysRepair_87 rfl ?_
          refine R_iconst dX10_laysRepair_89 (v := (-1)) rfl ?_
          refine R_icmp_ne dX10_laysRepair_90 rfl (fun h90 => ?_) (fun h90 => ?_)
          · replace hf := inegE hf h90
            refine R_iconst dX10_laysRepair_97 (v := (-1)) rfl ?_
            obtain ⟨hg3, hf⟩ := gdE hf
            obtain ⟨M98, hM98, hf⟩ := ltE hf
            refine R_iastore dX10_laysRepair_98 a_100 hg3.1 hg3.2 hM98 ?_
            refine R_aload_n dX10_laysRepair_99 rfl rfl ?_
            refine R_getR dX10_laysRepair_100 cl10 flX10_74 o_84 ff10_35 (fr10_35 _) a_101.1 ?_
            refine R_iload_n dX10_laysRepair_103 rfl rfl ?_
            refine R_aload_n dX10_laysRepair_104 rfl rfl ?_
            refine R_getR dX10_laysRepair_105 cl10 flX10_51 o_84 ff10_28 (fr10_28 _) a_94.1 ?_
            refine R_iload_n dX10_laysRepair_108 rfl rfl ?_
            refine R_iaload dX10_laysRepair_109 a_94 hg3.1 hg3.2 rfl ?_
            obtain ⟨M110, hM110, hf⟩ := ltE hf
            refine R_iastore dX10_laysRepair_110 a_101 hg3.1 hg3.2 hM110 ?_
            refine R_aload_n dX10_laysRepair_111 rfl rfl ?_
            refine R_getR dX10_laysRepair_112 cl10 flX10_77 o_84 ff10_36 (fr10_36 _) a_102.1 ?_
            refine R_iload_n dX10_laysRepair_115 rfl rfl ?_
            refine R_iload dX10_laysRepair_116 rfl ?_
            refine R_if_ge dX10_laysRepair_118 rfl (fun h118 => ?_) (fun h118 => ?_)
            · replace hf := iposE hf h118
              refine R_iload dX10_laysRepair_127 rfl ?_
              refine R_iconst dX10_laysRepair_129 (v := 1) rfl ?_
              refine R_iadd dX10_laysRepair_130 rfl ?_
              obtain ⟨M131, hM131, hf⟩ := ltE hf
              refine R_iastore dX10_laysRepair_131 a_102 hg1.1 hg1.2 hM131 ?_
              refine R_aload_n dX10_laysRepair_132 rfl rfl ?_
              refine R_getR dX10_laysRepair_133 cl10 flX10_80 o_84 ff10_37 (fr10_37 _) a_103.1 ?_
              refine R_iload_n dX10_laysRepair_136 rfl rfl ?_
              refine R_iload dX10_laysRepair_137 rfl ?_
              obtain ⟨M139, hM139, hf⟩ := ltE hf
              refine R_iastore dX10_laysRepair_139 a_103 hg1.1 hg1.2 hM139 ?_
              obtain ⟨v2_140, hv2_140, hf⟩ := ltE hf
              refine R_iinc dX10_laysRepair_140 rfl rfl hv2_140 (by decide) rfl ?_
              refine R_iload dX10_laysRepair_143 rfl ?_
              refine R_if_lt dX10_laysRepair_145 rfl (fun h145 => ?_) (fun h145 => ?_)
              · replace hf := iposE hf h145
                refine R_goto dX10_laysRepair_209 rfl ?_
                exact R_subk (ih _ _ _ _  hf) ⟨rfl, rfl, rfl, trivial⟩
              · replace hf := inegE hf h145
                refine R_aload_n dX10_laysRepair_148 rfl rfl ?_
                refine R_getR dX10_laysRepair_149 cl10 flX10_71 o_84 ff10_34 (fr10_34 _) a_100.1 ?_
                refine R_iload dX10_laysRepair_152 rfl ?_
                refine R_aload_n dX10_laysRepair_154 rfl rfl ?_
                refine R_getR dX10_laysRepair_155 cl10 flX10_51 o_84 ff10_28 (fr10_28 _) a_94.1 ?_
                refine R_iload dX10_laysRepair_158 rfl ?_
                obtain ⟨hg4, hf⟩ := gdE hf
                refine R_iaload dX10_laysRepair_160 a_94 hg4.1 hg4.2 rfl ?_
                refine R_aload_n dX10_laysRepair_161 rfl rfl ?_
                refine R_getR dX10_laysRepair_162 cl10 flX10_51 o_84 ff10_28 (fr10_28 _) a_94.1 ?_
                refine R_iload_n dX10_laysRepair_165 rfl rfl ?_
                refine R_iaload dX10_laysRepair_166 a_94 hg3.1 hg3.2 rfl ?_
                refine R_icmp_ne dX10_laysRepair_167 rfl (fun h167 => ?_) (fun h167 => ?_)
                · replace hf := inegE hf h167
                  refine R_iconst dX10_laysRepair_174 (v := 2) rfl ?_
                  obtain ⟨M175, hM175, hf⟩ := ltE hf
                  refine R_iastore dX10_laysRepair_175 a_100 hg4.1 hg4.2 hM175 ?_
                  refine R_aload_n dX10_laysRepair_176 rfl rfl ?_
                  refine R_getR dX10_laysRepair_177 cl10 flX10_74 o_84 ff10_35 (fr10_35 _) a_101.1 ?_
                  refine R_iload dX10_laysRepair_180 rfl ?_
                  refine R_aload_n dX10_laysRepair_182 rfl rfl ?_
                  refine R_getR dX10_laysRepair_183 cl10 flX10_51 o_84 ff10_28 (fr10_28 _) a_94.1 ?_
                  refine R_iload_n dX10_laysRepair_186 rfl rfl ?_
                  refine R_iaload dX10_laysRepair_187 a_94 hg3.1 hg3.2 rfl ?_
                  obtain ⟨M188, hM188, hf⟩ := ltE hf
                  refine R_iastore dX10_laysRepair_188 a_101 hg4.1 hg4.2 hM188 ?_
                  refine R_aload_n dX10_laysRepair_189 rfl rfl ?_
                  refine R_getR dX10_laysRepair_190 cl10 flX10_77 o_84 ff10_36 (fr10_36 _) a_102.1 ?_
                  refine R_iload_n dX10_laysRepair_193 rfl rfl ?_
                  refine R_iload_n dX10_laysRepair_194 rfl rfl ?_
                  refine R_iconst dX10_laysRepair_195 (v := 1) rfl ?_
                  refine R_iadd dX10_laysRepair_196 rfl ?_
                  obtain ⟨hg5, hf⟩ := gdE hf
                  obtain ⟨M197, hM197, hf⟩ := ltE hf
                  refine R_iastore dX10_laysRepair_197 a_102 hg5.1 hg5.2 hM197 ?_
                  refine R_aload_n dX10_laysRepair_198 rfl rfl ?_
                  refine R_getR dX10_laysRepair_199 cl10 flX10_80 o_84 ff10_37 (fr10_37 _) a_103.1 ?_
                  refine R_iload_n dX10_laysRepair_202 rfl rfl ?_
                  refine R_iload dX10_laysRepair_203 rfl ?_
                  obtain ⟨M205, hM205, hf⟩ := ltE hf
                  refine R_iastore dX10_laysRepair_205 a_103 hg5.1 hg5.2 hM205 ?_
                  obtain ⟨v2_206, hv2_206, hf⟩ := ltE hf
                  refine R_iinc dX10_laysRepair_206 rfl rfl hv2_206 (by decide) rfl ?_
                  refine R_goto dX10_laysRepair_209 rfl ?_
                  exact R_subk (ih _ _ _ _  hf) ⟨rfl, rfl, rfl, trivial⟩
                · replace hf := iposE hf h167
                  refine R_iconst dX10_laysRepair_170 (v := (-1)) rfl ?_
                  refine R_goto dX10_laysRepair_171 rfl ?_
                  obtain ⟨M175, hM175, hf⟩ := ltE hf
                  refine R_iastore dX10_laysRepair_175 a_100 hg4.1 hg4.2 hM175 ?_
                  refine R_aload_n dX10_laysRepair_176 rfl rfl ?_
                  refine R_getR dX10_laysRepair_177 cl10 flX10_74 o_84 ff10_35 (fr10_35 _) a_101.1 ?_
                  refine R_iload dX10_laysRepair_180 rfl ?_
                  refine R_aload_n dX10_laysRepair_182 rfl rfl ?_
                  refine R_getR dX10_laysRepair_183 cl10 flX10_51 o_84 ff10_28 (fr10_28 _) a_94.1 ?_
                  refine R_iload_n dX10_laysRepair_186 rfl rfl ?_
                  refine R_iaload dX10_laysRepair_187 a_94 hg3.1 hg3.2 rfl ?_
                  obtain ⟨M188, hM188, hf⟩ := ltE hf
                  refine R_iastore dX10_laysRepair_188 a_101 hg4.1 hg4.2 hM188 ?_
                  refine R_aload_n dX10_laysRepair_189 rfl rfl ?_
                  refine R_getR dX10_laysRepair_190 cl10 flX10_77 o_84 ff10_36 (fr10_36 _) a_102.1 ?_
                  refine R_iload_n dX10_laysRepair_193 rfl rfl ?_
                  refine R_iload_n dX10_laysRepair_194 rfl rfl ?_
                  refine R_iconst dX10_laysRepair_195 (v := 1) rfl ?_
                  refine R_iadd dX10_laysRepair_196 rfl ?_
                  obtain ⟨hg6, hf⟩ := gdE hf
                  obtain ⟨M197, hM197, hf⟩ := ltE hf
                  refine R_iastore dX10_laysRepair_197 a_102 hg6.1 hg6.2 hM197 ?_
                  refine R_aload_n dX10_laysRepair_198 rfl rfl ?_
                  refine R_getR dX10_laysRepair_199 cl10 flX10_80 o_84 ff10_37 (fr10_37 _) a_103.1 ?_
                  refine R_iload_n dX10_laysRepair_202 rfl rfl ?_
                  refine R_iload dX10_laysRepair_203 rfl ?_
                  obtain ⟨M205, hM205, hf⟩ := ltE hf
                  refine R_iastore dX10_laysRepair_205 a_103 hg6.1 hg6.2 hM205 ?_
                  obtain ⟨v2_206, hv2_206, hf⟩ := ltE hf
                  refine R_iinc dX10_laysRepair_206 rfl rfl hv2_206 (by decide) rfl ?_
                  refine R_goto dX10_laysRepair_209 rfl ?_
                  exact R_subk (ih _ _ _ _  hf) ⟨rfl, rfl, rfl, trivial⟩
            · replace hf := inegE hf h118
              refine R_iload_n dX10_laysRepair_121 rfl rfl ?_
              refine R_iconst dX10_laysRepair_122 (v := 1) rfl ?_
              refine R_iadd dX10_laysRepair_123 rfl ?_
              refine R_goto dX10_laysRepair_124 rfl ?_
              obtain ⟨M131, hM131, hf⟩ := ltE hf
              refine R_iastore dX10_laysRepair_131 a_102 hg1.1 hg1.2 hM131 ?_
              refine R_aload_n dX10_laysRepair_132 rfl rfl ?_
              refine R_getR dX10_laysRepair_133 cl10 flX10_80 o_84 ff10_37 (fr10_37 _) a_103.1 ?_
              refine R_iload_n dX10_laysRepair_136 rfl rfl ?_
              refine R_iload dX10_laysRepair_137 rfl ?_
              obtain ⟨M139, hM139, hf⟩ := ltE hf
              refine R_iastore dX10_laysRepair_139 a_103 hg1.1 hg1.2 hM139 ?_
              obtain ⟨v2_140, hv2_140, hf⟩ := ltE hf
              refine R_iinc dX10_laysRepair_140 rfl rfl hv2_140 (by decide) rfl ?_
              refine R_iload dX10_laysRepair_143 rfl ?_
              refine R_if_lt dX10_laysRepair_145 rfl (fun h145 => ?_) (fun h145 => ?_)
              · replace hf := iposE hf h145
                refine R_goto dX10_laysRepair_209 rfl ?_
                exact R_subk (ih _ _ _ _  hf) ⟨rfl, rfl, rfl, trivial⟩
              · replace hf := inegE hf h145
                refine R_aload_n dX10_laysRepair_148 rfl rfl ?_
                refine R_getR dX10_laysRepair_149 cl10 flX10_71 o_84 ff10_34 (fr10_34 _) a_100.1 ?_
                refine R_iload dX10_laysRepair_152 rfl ?_
                refine R_aload_n dX10_laysRepair_154 rfl rfl ?_
                refine R_getR dX10_laysRepair_155 cl10 flX10_51 o_84 ff10_28 (fr10_28 _) a_94.1 ?_
                refine R_iload dX10_laysRepair_158 rfl ?_
                obtain ⟨hg7, hf⟩ := gdE hf
                refine R_iaload dX10_laysRepair_160 a_94 hg7.1 hg7.2 rfl ?_
                refine R_aload_n dX10_laysRepair_161 rfl rfl ?_
                refine R_getR dX10_laysRepair_162 cl10 flX10_51 o_84 ff10_28 (fr10_28 _) a_94.1 ?_
                refine R_iload_n dX10_laysRepair_165 rfl rfl ?_
                refine R_iaload dX10_laysRepair_166 a_94 hg3.1 hg3.2 rfl ?_
                refine R_icmp_ne dX10_laysRepair_167 rfl (fun h167 => ?_) (fun h167 => ?_)
                · replace hf := inegE hf h167
                  refine R_iconst dX10_laysRepair_174 (v := 2) rfl ?_
                  obtain ⟨M175, hM175, hf⟩ := ltE hf
                  refine R_iastore dX10_laysRepair_175 a_100 hg7.1 hg7.2 hM175 ?_
                  refine R_aload_n dX10_laysRepair_176 rfl rfl ?_
                  refine R_getR dX10_laysRepair_177 cl10 flX10_74 o_84 ff10_35 (fr10_35 _) a_101.1 ?_
                  refine R_iload dX10_laysRepair_180 rfl ?_
                  refine R_aload_n dX10_laysRepair_182 rfl rfl ?_
                  refine R_getR dX10_laysRepair_183 cl10 flX10_51 o_84 ff10_28 (fr10_28 _) a_94.1 ?_
                  refine R_iload_n dX10_laysRepair_186 rfl rfl ?_
                  refine R_iaload dX10_laysRepair_187 a_94 hg3.1 hg3.2 rfl ?_
                  obtain ⟨M188, hM188, hf⟩ := ltE hf
                  refine R_iastore dX10_laysRepair_188 a_101 hg7.1 hg7.2 hM188 ?_
                  refine R_aload_n dX10_laysRepair_189 rfl rfl ?_
                  refine R_getR dX10_laysRepair_190 cl10 flX10_77 o_84 ff10_36 (fr10_36 _) a_102.1 ?_
                  refine R_iload_n dX10_laysRepair_193 rfl rfl ?_
                  refine R_iload_n dX10_laysRepair_194 rfl rfl ?_
                  refine R_iconst dX10_laysRepair_195 (v := 1) rfl ?_
                  refine R_iadd dX10_laysRepair_196 rfl ?_
                  obtain ⟨hg8, hf⟩ := gdE hf
                  obtain ⟨M197, hM197, hf⟩ := ltE hf
                  refine R_iastore dX10_laysRepair_197 a_102 hg8.1 hg8.2 hM197 ?_
                  refine R_aload_n dX10_laysRepair_198 rfl rfl ?_
                  refine R_getR dX10_laysRepair_199 cl10 flX10_80 o_84 ff10_37 (fr10_37 _) a_103.1 ?_
                  refine R_iload_n dX10_laysRepair_202 rfl rfl ?_
                  refine R_iload dX10_laysRepair_203 rfl ?_
                  obtain ⟨M205, hM205, hf⟩ := ltE hf
                  refine R_iastore dX10_laysRepair_205 a_103 hg8.1 hg8.2 hM205 ?_
                  obtain ⟨v2_206, hv2_206, hf⟩ := ltE hf
                  refine R_iinc dX10_laysRepair_206 rfl rfl hv2_206 (by decide) rfl ?_
                  refine R_goto dX10_laysRepair_209 rfl ?_
                  exact R_subk (ih _ _ _ _  hf) ⟨rfl, rfl, rfl, trivial⟩
                · replace hf := iposE hf h167
                  refine R_iconst dX10_laysRepair_170 (v := (-1)) rfl ?_
                  refine R_goto dX10_laysRepair_171 rfl ?_
                  obtain ⟨M175, hM175, hf⟩ := ltE hf
                  refine R_iastore dX10_laysRepair_175 a_100 hg7.1 hg7.2 hM175 ?_
                  refine R_aload_n dX10_laysRepair_176 rfl rfl ?_
                  refine R_getR dX10_laysRepair_177 cl10 flX10_74 o_84 ff10_35 (fr10_35 _) a_101.1 ?_
                  refine R_iload dX10_laysRepair_180 rfl ?_
                  refine R_aload_n dX10_laysRepair_182 rfl rfl ?_
                  refine R_getR dX10_laysRepair_183 cl10 flX10_51 o_84 ff10_28 (fr10_28 _) a_94.1 ?_
                  refine R_iload_n dX10_laysRepair_186 rfl rfl ?_
                  refine R_iaload dX10_laysRepair_187 a_94 hg3.1 hg3.2 rfl ?_
                  obtain ⟨M188, hM188, hf⟩ := ltE hf
                  refine R_iastore dX10_laysRepair_188 a_101 hg7.1 hg7.2 hM188 ?_
                  refine R_aload_n dX10_laysRepair_189 rfl rfl ?_
                  refine R_getR dX10_laysRepair_190 cl10 flX10_77 o_84 ff10_36 (fr10_36 _) a_102.1 ?_
                  refine R_iload_n dX10_laysRepair_193 rfl rfl ?_
                  refine R_iload_n dX10_laysRepair_194 rfl rfl ?_
                  refine R_iconst dX10_laysRepair_195 (v := 1) rfl ?_
                  refine R_iadd dX10_laysRepair_196 rfl ?_
                  obtain ⟨hg9, hf⟩ := gdE hf
                  obtain ⟨M197, hM197, hf⟩ := ltE hf
                  refine R_iastore dX10_laysRepair_197 a_102 hg9.1 hg9.2 hM197 ?_
                  refine R_aload_n dX10_laysRepair_198 rfl rfl ?_
                  refine R_getR dX10_laysRepair_199 cl10 flX10_80 o_84 ff10_37 (fr10_37 _) a_103.1 ?_
                  refine R_iload_n dX10_laysRepair_202 rfl rfl ?_
                  refine R_iload dX10_laysRepair_203 rfl ?_
                  obtain ⟨M205, hM205, hf⟩ := ltE hf
                  refine R_iastore dX10_laysRepair_205 a_103 hg9.1 hg9.2 hM205 ?_
                  obtain ⟨v2_206, hv2_206, hf⟩ := ltE hf
                  refine R_iinc dX10_laysRepair_206 rfl rfl hv2_206 (by decide) rfl ?_
                  refine R_goto dX10_laysRepair_209 rfl ?_
                  exact R_subk (ih _ _ _ _  hf) ⟨rfl, rfl, rfl, trivial⟩
          · replace hf := iposE hf h90
            refine R_iconst dX10_laysRepair_93 (v := 1) rfl ?_
            refine R_goto dX10_laysRepair_94 rfl ?_
            obtain ⟨hg10, hf⟩ := gdE hf
            obtain ⟨M98, hM98, hf⟩ := ltE hf
            refine R_iastore dX10_laysRepair_98 a_100 hg10.1 hg10.2 hM98 ?_
            refine R_aload_n dX10_laysRepair_99 rfl rfl ?_
            refine R_getR dX10_laysRepair_100 cl10 flX10_74 o_84 ff10_35 (fr10_35 _) a_101.1 ?_
            refine R_iload_n dX10_laysRepair_103 rfl rfl ?_
            refine R_aload_n dX10_laysRepair_104 rfl rfl ?_
            refine R_getR dX10_laysRepair_105 cl10 flX10_51 o_84 ff10_28 (fr10_28 _) a_94.1 ?_
            refine R_iload_n dX10_laysRepair_108 rfl rfl ?_
            refine R_iaload dX10_laysRepair_109 a_94 hg10.1 hg10.2 rfl ?_
            obtain ⟨M110, hM110, hf⟩ := ltE hf
            refine R_iastore dX10_laysRepair_110 a_101 hg10.1 hg10.2 hM110 ?_
            refine R_aload_n dX10_laysRepair_111 rfl rfl ?_
            refine R_getR dX10_laysRepair_112 cl10 flX10_77 o_84 ff10_36 (fr10_36 _) a_102.1 ?_
            refine R_iload_n dX10_laysRepair_115 rfl rfl ?_
            refine R_iload dX10_laysRepair_116 rfl ?_
            refine R_if_ge dX10_laysRepair_118 rfl (fun h118 => ?_) (fun h118 => ?_)
            · replace hf := iposE hf h118
              refine R_iload dX10_laysRepair_127 rfl ?_
              refine R_iconst dX10_laysRepair_129 (v := 1) rfl ?_
              refine R_iadd dX10_laysRepair_130 rfl ?_
              obtain ⟨M131, hM131, hf⟩ := ltE hf
              refine R_iastore dX10_laysRepair_131 a_102 hg1.1 hg1.2 hM131 ?_
              refine R_aload_n dX10_laysRepair_132 rfl rfl ?_
              refine R_getR dX10_laysRepair_133 cl10 flX10_80 o_84 ff10_37 (fr10_37 _) a_103.1 ?_
              refine R_iload_n dX10_laysRepair_136 rfl rfl ?_
              refine R_iload dX10_laysRepair_137 rfl ?_
              obtain ⟨M139, hM139, hf⟩ := ltE hf
              refine R_iastore dX10_laysRepair_139 a_103 hg1.1 hg1.2 hM139 ?_
              obtain ⟨v2_140, hv2_140, hf⟩ := ltE hf
              refine R_iinc dX10_laysRepair_140 rfl rfl hv2_140 (by decide) rfl ?_
              refine R_iload dX10_laysRepair_143 rfl ?_
              refine R_if_lt dX10_laysRepair_145 rfl (fun h145 => ?_) (fun h145 => ?_)
              · replace hf := iposE hf h145
                refine R_goto dX10_laysRepair_209 rfl ?_
                exact R_subk (ih _ _ _ _  hf) ⟨rfl, rfl, rfl, trivial⟩
              · replace hf := inegE hf h145
                refine R_aload_n dX10_laysRepair_148 rfl rfl ?_
                refine R_getR dX10_laysRepair_149 cl10 flX10_71 o_84 ff10_34 (fr10_34 _) a_100.1 ?_
                refine R_iload dX10_laysRepair_152 rfl ?_
                refine R_aload_n dX10_laysRepair_154 rfl rfl ?_
                refine R_getR dX10_laysRepair_155 cl10 flX10_51 o_84 ff10_28 (fr10_28 _) a_94.1 ?_
                refine R_iload dX10_laysRepair_158 rfl ?_
                obtain ⟨hg11, hf⟩ := gdE hf
                refine R_iaload dX10_laysRepair_160 a_94 hg11.1 hg11.2 rfl ?_
                refine R_aload_n dX10_laysRepair_161 rfl rfl ?_
                refine R_getR dX10_laysRepair_162 cl10 flX10_51 o_84 ff10_28 (fr10_28 _) a_94.1 ?_
                refine R_iload_n dX10_laysRepair_165 rfl rfl ?_
                refine R_iaload dX10_laysRepair_166 a_94 hg10.1 hg10.2 rfl ?_
                refine R_icmp_ne dX10_laysRepair_167 rfl (fun h167 => ?_) (fun h167 => ?_)
                · replace hf := inegE hf h167
                  refine R_iconst dX10_laysRepair_174 (v := 2) rfl ?_
                  obtain ⟨M175, hM175, hf⟩ := ltE hf
                  refine R_iastore dX10_laysRepair_175 a_100 hg11.1 hg11.2 hM175 ?_
                  refine R_aload_n dX10_laysRepair_176 rfl rfl ?_
                  refine R_getR dX10_laysRepair_177 cl10 flX10_74 o_84 ff10_35 (fr10_35 _) a_101.1 ?_
                  refine R_iload dX10_laysRepair_180 rfl ?_
                  refine R_aload_n dX10_laysRepair_182 rfl rfl ?_
                  refine R_getR dX10_laysRepair_183 cl10 flX10_51 o_84 ff10_28 (fr10_28 _) a_94.1 ?_
                  refine R_iload_n dX10_laysRepair_186 rfl rfl ?_
                  refine R_iaload dX10_laysRepair_187 a_94 hg10.1 hg10.2 rfl ?_
                  obtain ⟨M188, hM188, hf⟩ := ltE hf
                  refine R_iastore dX10_laysRepair_188 a_101 hg11.1 hg11.2 hM188 ?_
                  refine R_aload_n dX10_laysRepair_189 rfl rfl ?_
                  refine R_getR dX10_laysRepair_190 cl10 flX10_77 o_84 ff10_36 (fr10_36 _) a_102.1 ?_
                  refine R_iload_n dX10_laysRepair_193 rfl rfl ?_
                  refine R_iload_n dX10_laysRepair_194 rfl rfl ?_
                  refine R_iconst dX10_laysRepair_195 (v := 1) rfl ?_
                  refine R_iadd dX10_laysRepair_196 rfl ?_
                  obtain ⟨hg12, hf⟩ := gdE hf
                  obtain ⟨M197, hM197, hf⟩ := ltE hf
                  refine R_iastore dX10_laysRepair_197 a_102 hg12.1 hg12.2 hM197 ?_
                  refine R_aload_n dX10_laysRepair_198 rfl rfl ?_
                  refine R_getR dX10_laysRepair_199 cl10 flX10_80 o_84 ff10_37 (fr10_37 _) a_103.1 ?_
                  refine R_iload_n dX10_laysRepair_202 rfl rfl ?_
                  refine R_iload dX10_laysRepair_203 rfl ?_
                  obtain ⟨M205, hM205, hf⟩ := ltE hf
                  refine R_iastore dX10_laysRepair_205 a_103 hg12.1 hg12.2 hM205 ?_
                  obtain ⟨v2_206, hv2_206, hf⟩ := ltE hf
                  refine R_iinc dX10_laysRepair_206 rfl rfl hv2_206 (by decide) rfl ?_
                  refine R_goto dX10_laysRepair_209 rfl ?_
                  exact R_subk (ih _ _ _ _  hf) ⟨rfl, rfl, rfl, trivial⟩
                · replace hf := iposE hf h167
                  refine R_iconst dX10_laysRepair_170 (v := (-1)) rfl ?_
                  refine R_goto dX10_laysRepair_171 rfl ?_
                  obtain ⟨M175, hM175, hf⟩ := ltE hf
                  refine R_iastore dX10_laysRepair_175 a_100 hg11.1 hg11.2 hM175 ?_
                  refine R_aload_n dX10_laysRepair_176 rfl rfl ?_
                  refine R_getR dX10_laysRepair_177 cl10 flX10_74 o_84 ff10_35 (fr10_35 _) a_101.1 ?_
                  refine R_iload dX10_laysRepair_180 rfl ?_
                  refine R_aload_n dX10_laysRepair_182 rfl rfl ?_
                  refine R_getR dX10_laysRepair_183 cl10 flX10_51 o_84 ff10_28 (fr10_28 _) a_94.1 ?_
                  refine R_iload_n dX10_laysRepair_186 rfl rfl ?_
                  refine R_iaload dX10_laysRepair_187 a_94 hg10.1 hg10.2 rfl ?_
                  obtain ⟨M188, hM188, hf⟩ := ltE hf
                  refine R_iastore dX10_laysRepair_188 a_101 hg11.1 hg11.2 hM188 ?_
                  refine R_aload_n dX10_laysRepair_189 rfl rfl ?_
                  refine R_getR dX10_laysRepair_190 cl10 flX10_77 o_84 ff10_36 (fr10_36 _) a_102.1 ?_
                  refine R_iload_n dX10_laysRepair_193 rfl rfl ?_
                  refine R_iload_n dX10_laysRepair_194 rfl rfl ?_
                  refine R_iconst dX10_laysRepair_195 (v := 1) rfl ?_
                  refine R_iadd dX10_laysRepair_196 rfl ?_
                  obtain ⟨hg13, hf⟩ := gdE hf
                  obtain ⟨M197, hM197, hf⟩ := ltE hf
                  refine R_iastore dX10_laysRepair_197 a_102 hg13.1 hg13.2 hM197 ?_
                  refine R_aload_n dX10_laysRepair_198 rfl rfl ?_
                  refine R_getR dX10_laysRepair_199 cl10 flX10_80 o_84 ff10_37 (fr10_37 _) a_103.1 ?_
                  refine R_iload_n dX10_laysRepair_202 rfl rfl ?_
                  refine R_iload dX10_laysRepair_203 rfl ?_
                  obtain ⟨M205, hM205, hf⟩ := ltE hf
                  refine R_iastore dX10_laysRepair_205 a_103 hg13.1 hg13.2 hM205 ?_
                  obtain ⟨v2_206, hv2_206, hf⟩ := ltE hf
                  refine R_iinc dX10_laysRepair_206 rfl rfl hv2_206 (by decide) rfl ?_
                  refine R_goto dX10_laysRepair_209 rfl ?_
                  exact R_subk (ih _ _ _ _  hf) ⟨rfl, rfl, rfl, trivial⟩
            · replace hf := inegE hf h118
              refine R_iload_n dX10_laysRepair_121 rfl rfl ?_
              refine R_iconst dX10_laysRepair_122 (v := 1) rfl ?_
              refine R_iadd dX10_laysRepair_123 rfl ?_
              refine R_goto dX10_laysRepair_124 rfl ?_
              obtain ⟨M131, hM131, hf⟩ := ltE hf
              refine R_iastore dX10_laysRepair_131 a_102 hg1.1 hg1.2 hM131 ?_
              refine R_aload_n dX10_laysRepair_132 rfl rfl ?_
              refine R_getR dX10_laysRepair_133 cl10 flX10_80 o_84 ff10_37 (fr10_37 _) a_103.1 ?_
              refine R_iload_n dX10_laysRepair_136 rfl rfl ?_
              refine R_iload dX10_laysRepair_137 rfl ?_
              obtain ⟨M139, hM139, hf⟩ := ltE hf
              refine R_iastore dX10_laysRepair_139 a_103 hg1.1 hg1.2 hM139 ?_
              obtain ⟨v2_140, hv2_140, hf⟩ := ltE hf
              refine R_iinc dX10_laysRepair_140 rfl rfl hv2_140 (by decide) rfl ?_
              refine R_iload dX10_laysRepair_143 rfl ?_
              refine R_if_lt dX10_laysRepair_145 rfl (fun h145 => ?_) (fun h145 => ?_)
              · replace hf := iposE hf h145
                refine R_goto dX10_laysRepair_209 rfl ?_
                exact R_subk (ih _ _ _ _  hf) ⟨rfl, rfl, rfl, trivial⟩
              · replace hf := inegE hf h145
                refine R_aload_n dX10_laysRepair_148 rfl rfl ?_
                refine R_getR dX10_laysRepair_149 cl10 flX10_71 o_84 ff10_34 (fr10_34 _) a_100.1 ?_
                refine R_iload dX10_laysRepair_152 rfl ?_
                refine R_aload_n dX10_laysRepair_154 rfl rfl ?_
                refine R_getR dX10_laysRepair_155 cl10 flX10_51 o_84 ff10_28 (fr10_28 _) a_94.1 ?_
                refine R_iload dX10_laysRepair_158 rfl ?_
                obtain ⟨hg14, hf⟩ := gdE hf
                refine R_iaload dX10_laysRepair_160 a_94 hg14.1 hg14.2 rfl ?_
                refine R_aload_n dX10_laysRepair_161 rfl rfl ?_
                refine R_getR dX10_laysRepair_162 cl10 flX10_51 o_84 ff10_28 (fr10_28 _) a_94.1 ?_
                refine R_iload_n dX10_laysRepair_165 rfl rfl ?_
                refine R_iaload dX10_laysRepair_166 a_94 hg10.1 hg10.2 rfl ?_
                refine R_icmp_ne dX10_laysRepair_167 rfl (fun h167 => ?_) (fun h167 => ?_)
                · replace hf := inegE hf h167
                  refine R_iconst dX10_laysRepair_174 (v := 2) rfl ?_
                  obtain ⟨M175, hM175, hf⟩ := ltE hf
                  refine R_iastore dX10_laysRepair_175 a_100 hg14.1 hg14.2 hM175 ?_
                  refine R_aload_n dX10_laysRepair_176 rfl rfl ?_
                  refine R_getR dX10_laysRepair_177 cl10 flX10_74 o_84 ff10_35 (fr10_35 _) a_101.1 ?_
                  refine R_iload dX10_laysRepair_180 rfl ?_
                  refine R_aload_n dX10_laysRepair_182 rfl rfl ?_
                  refine R_getR dX10_laysRepair_183 cl10 flX10_51 o_84 ff10_28 (fr10_28 _) a_94.1 ?_
                  refine R_iload_n dX10_laysRepair_186 rfl rfl ?_
                  refine R_iaload dX10_laysRepair_187 a_94 hg10.1 hg10.2 rfl ?_
                  obtain ⟨M188, hM188, hf⟩ := ltE hf
                  refine R_iastore dX10_laysRepair_188 a_101 hg14.1 hg14.2 hM188 ?_
                  refine R_aload_n dX10_laysRepair_189 rfl rfl ?_
                  refine R_getR dX10_laysRepair_190 cl10 flX10_77 o_84 ff10_36 (fr10_36 _) a_102.1 ?_
                  refine R_iload_n dX10_laysRepair_193 rfl rfl ?_
                  refine R_iload_n dX10_laysRepair_194 rfl rfl ?_
                  refine R_iconst dX10_laysRepair_195 (v := 1) rfl ?_
                  refine R_iadd dX10_laysRepair_196 rfl ?_
                  obtain ⟨hg15, hf⟩ := gdE hf
                  obtain ⟨M197, hM197, hf⟩ := ltE hf
                  refine R_iastore dX10_laysRepair_197 a_102 hg15.1 hg15.2 hM197 ?_
                  refine R_aload_n dX10_laysRepair_198 rfl rfl ?_
                  refine R_getR dX10_laysRepair_199 cl10 flX10_80 o_84 ff10_37 (fr10_37 _) a_103.1 ?_
                  refine R_iload_n dX10_laysRepair_202 rfl rfl ?_
                  refine R_iload dX10_laysRepair_203 rfl ?_
                  obtain ⟨M205, hM205, hf⟩ := ltE hf
                  refine R_iastore dX10_laysRepair_205 a_103 hg15.1 hg15.2 hM205 ?_
                  obtain ⟨v2_206, hv2_206, hf⟩ := ltE hf
                  refine R_iinc dX10_laysRepair_206 rfl rfl hv2_206 (by decide) rfl ?_
                  refine R_goto dX10_laysRepair_209 rfl ?_
                  exact R_subk (ih _ _ _ _  hf) ⟨rfl, rfl, rfl, trivial⟩
                · replace hf := iposE hf h167
                  refine R_iconst dX10_laysRepair_170 (v := (-1)) rfl ?_
                  refine R_goto dX10_laysRepair_171 rfl ?_
                  obtain ⟨M175, hM175, hf⟩ := ltE hf
                  refine R_iastore dX10_laysRepair_175 a_100 hg14.1 hg14.2 hM175 ?_
                  refine R_aload_n dX10_laysRepair_176 rfl rfl ?_
                  refine R_getR dX10_laysRepair_177 cl10 flX10_74 o_84 ff10_35 (fr10_35 _) a_101.1 ?_
                  refine R_iload dX10_laysRepair_180 rfl ?_
                  refine R_aload_n dX10_laysRepair_182 rfl rfl ?_
                  refine R_getR dX10_laysRepair_183 cl10 flX10_51 o_84 ff10_28 (fr10_28 _) a_94.1 ?_
                  refine R_iload_n dX10_laysRepair_186 rfl rfl ?_
                  refine R_iaload dX10_laysRepair_187 a_94 hg10.1 hg10.2 rfl ?_
                  obtain ⟨M188, hM188, hf⟩ := ltE hf
                  refine R_iastore dX10_laysRepair_188 a_101 hg14.1 hg14.2 hM188 ?_
                  refine R_aload_n dX10_laysRepair_189 rfl rfl ?_
                  refine R_getR dX10_laysRepair_190 cl10 flX10_77 o_84 ff10_36 (fr10_36 _) a_102.1 ?_
                  refine R_iload_n dX10_laysRepair_193 rfl rfl ?_
                  refine R_iload_n dX10_laysRepair_194 rfl rfl ?_
                  refine R_iconst dX10_laysRepair_195 (v := 1) rfl ?_
                  refine R_iadd dX10_laysRepair_196 rfl ?_
                  obtain ⟨hg16, hf⟩ := gdE hf
                  obtain ⟨M197, hM197, hf⟩ := ltE hf
                  refine R_iastore dX10_laysRepair_197 a_102 hg16.1 hg16.2 hM197 ?_
                  refine R_aload_n dX10_laysRepair_198 rfl rfl ?_
                  refine R_getR dX10_laysRepair_199 cl10 flX10_80 o_84 ff10_37 (fr10_37 _) a_103.1 ?_
                  refine R_iload_n dX10_laysRepair_202 rfl rfl ?_
                  refine R_iload dX10_laysRepair_203 rfl ?_
                  obtain ⟨M205, hM205, hf⟩ := ltE hf
                  refine R_iastore dX10_laysRepair_205 a_103 hg16.1 hg16.2 hM205 ?_
                  obtain ⟨v2_206, hv2_206, hf⟩ := ltE hf
                  refine R_iinc dX10_laysRepair_206 rfl rfl hv2_206 (by decide) rfl ?_
                  refine R_goto dX10_laysRepair_209 rfl ?_
                  exact R_subk (ih _ _ _ _  hf) ⟨rfl, rfl, rfl, trivial⟩
        · replace hf := iposE hf h80
          refine R_iconst dX10_laysRepair_83 (v := 0) rfl ?_
          refine R_goto dX10_laysRepair_84 rfl ?_
          obtain ⟨hg17, hf⟩ := gdE hf
          obtain ⟨M98, hM98, hf⟩ := ltE hf
          refine R_iastore dX10_laysRepair_98 a_100 hg17.1 hg17.2 hM98 ?_
          refine R_aload_n dX10_laysRepair_99 rfl rfl ?_
          refine R_getR dX10_laysRepair_100 cl10 flX10_74 o_84 ff10_35 (fr10_35 _) a_101.1 ?_
          refine R_iload_n dX10_laysRepair_103 rfl rfl ?_
          refine R_aload_n dX10_laysRepair_104 rfl rfl ?_
          refine R_getR dX10_laysRepair_105 cl10 flX10_51 o_84 ff10_28 (fr10_28 _) a_94.1 ?_
          refine R_iload_n dX10_laysRepair_108 rfl rfl ?_
          refine R_iaload dX10_laysRepair_109 a_94 hg17.1 hg17.2 rfl ?_
          obtain ⟨M110, hM110, hf⟩ := ltE hf
          refine R_iastore dX10_laysRepair_110 a_101 hg17.1 hg17.2 hM110 ?_
          refine R_aload_n dX10_laysRepair_111 rfl rfl ?_
          refine R_getR dX10_laysRepair_112 cl10 flX10_77 o_84 ff10_36 (fr10_36 _) a_102.1 ?_
          refine R_iload_n dX10_laysRepair_115 rfl rfl ?_
          refine R_iload dX10_laysRepair_116 rfl ?_
          refine R_if_ge dX10_laysRepair_118 rfl (fun h118 => ?_) (fun h118 => ?_)
          · replace hf := iposE hf h118
            refine R_iload dX10_laysRepair_127 rfl ?_
            refine R_iconst dX10_laysRepair_129 (v := 1) rfl ?_
            refine R_iadd dX10_laysRepair_130 rfl ?_
            obtain ⟨M131, hM131, hf⟩ := ltE hf
            refine R_iastore dX10_laysRepair_131 a_102 hg1.1 hg1.2 hM131 ?_
            refine R_aload_n dX10_laysRepair_132 rfl rfl ?_
            refine R_getR dX10_laysRepair_133 cl10 flX10_80 o_84 ff10_37 (fr10_37 _) a_103.1 ?_
            refine R_iload_n dX10_laysRepair_136 rfl rfl ?_
            refine R_iload dX10_laysRepair_137 rfl ?_
            obtain ⟨M139, hM139, hf⟩ := ltE hf
            refine R_iastore dX10_laysRepair_139 a_103 hg1.1 hg1.2 hM139 ?_
            obtain ⟨v2_140, hv2_140, hf⟩ := ltE hf
            refine R_iinc dX10_laysRepair_140 rfl rfl hv2_140 (by decide) rfl ?_
            refine R_iload dX10_laysRepair_143 rfl ?_
            refine R_if_lt dX10_laysRepair_145 rfl (fun h145 => ?_) (fun h145 => ?_)
            · replace hf := iposE hf h145
              refine R_goto dX10_laysRepair_209 rfl ?_
              exact R_subk (ih _ _ _ _  hf) ⟨rfl, rfl, rfl, trivial⟩
            · replace hf := inegE hf h145
              refine R_aload_n dX10_laysRepair_148 rfl rfl ?_
              refine R_getR dX10_laysRepair_149 cl10 flX10_71 o_84 ff10_34 (fr10_34 _) a_100.1 ?_
              refine R_iload dX10_laysRepair_152 rfl ?_
              refine R_aload_n dX10_laysRepair_154 rfl rfl ?_
              refine R_getR dX10_laysRepair_155 cl10 flX10_51 o_84 ff10_28 (fr10_28 _) a_94.1 ?_
              refine R_iload dX10_laysRepair_158 rfl ?_
              obtain ⟨hg18, hf⟩ := gdE hf
              refine R_iaload dX10_laysRepair_160 a_94 hg18.1 hg18.2 rfl ?_
              refine R_aload_n dX10_laysRepair_161 rfl rfl ?_
              refine R_getR dX10_laysRepair_162 cl10 flX10_51 o_84 ff10_28 (fr10_28 _) a_94.1 ?_
              refine R_iload_n dX10_laysRepair_165 rfl rfl ?_
              refine R_iaload dX10_laysRepair_166 a_94 hg17.1 hg17.2 rfl ?_
              refine R_icmp_ne dX10_laysRepair_167 rfl (fun h167 => ?_) (fun h167 => ?_)
              · replace hf := inegE hf h167
                refine R_iconst dX10_laysRepair_174 (v := 2) rfl ?_
                obtain ⟨M175, hM175, hf⟩ := ltE hf
                refine R_iastore dX10_laysRepair_175 a_100 hg18.1 hg18.2 hM175 ?_
                refine R_aload_n dX10_laysRepair_176 rfl rfl ?_
                refine R_getR dX10_laysRepair_177 cl10 flX10_74 o_84 ff10_35 (fr10_35 _) a_101.1 ?_
                refine R_iload dX10_laysRepair_180 rfl ?_
                refine R_aload_n dX10_laysRepair_182 rfl rfl ?_
                refine R_getR dX10_laysRepair_183 cl10 flX10_51 o_84 ff10_28 (fr10_28 _) a_94.1 ?_
                refine R_iload_n dX10_laysRepair_186 rfl rfl ?_
                refine R_iaload dX10_laysRepair_187 a_94 hg17.1 hg17.2 rfl ?_
                obtain ⟨M188, hM188, hf⟩ := ltE hf
                refine R_iastore dX10_laysRepair_188 a_101 hg18.1 hg18.2 hM188 ?_
                refine R_aload_n dX10_laysRepair_189 rfl rfl ?_
                refine R_getR dX10_laysRepair_190 cl10 flX10_77 o_84 ff10_36 (fr10_36 _) a_102.1 ?_
                refine R_iload_n dX10_laysRepair_193 rfl rfl ?_
                refine R_iload_n dX10_laysRepair_194 rfl rfl ?_
                refine R_iconst dX10_laysRepair_195 (v := 1) rfl ?_
                refine R_iadd dX10_laysRepair_196 rfl ?_
                obtain ⟨hg19, hf⟩ := gdE hf
                obtain ⟨M197, hM197, hf⟩ := ltE hf
                refine R_iastore dX10_laysRepair_197 a_102 hg19.1 hg19.2 hM197 ?_
                refine R_aload_n dX10_laysRepair_198 rfl rfl ?_
                refine R_getR dX10_laysRepair_199 cl10 flX10_80 o_84 ff10_37 (fr10_37 _) a_103.1 ?_
                refine R_iload_n dX10_laysRepair_202 rfl rfl ?_
                refine R_iload dX10_laysRepair_203 rfl ?_
                obtain ⟨M205, hM205, hf⟩ := ltE hf
                refine R_iastore dX10_laysRepair_205 a_103 hg19.1 hg19.2 hM205 ?_
                obtain ⟨v2_206, hv2_206, hf⟩ := ltE hf
                refine R_iinc dX10_laysRepair_206 rfl rfl hv2_206 (by decide) rfl ?_
                refine R_goto dX10_laysRepair_209 rfl ?_
                exact R_subk (ih _ _ _ _  hf) ⟨rfl, rfl, rfl, trivial⟩
              · replace hf := iposE hf h167
                refine R_iconst dX10_laysRepair_170 (v := (-1)) rfl ?_
                refine R_goto dX10_laysRepair_171 rfl ?_
                obtain ⟨M175, hM175, hf⟩ := ltE hf
                refine R_iastore dX10_laysRepair_175 a_100 hg18.1 hg18.2 hM175 ?_
                refine R_aload_n dX10_laysRepair_176 rfl rfl ?_
                refine R_getR dX10_laysRepair_177 cl10 flX10_74 o_84 ff10_35 (fr10_35 _) a_101.1 ?_
                refine R_iload dX10_laysRepair_180 rfl ?_
                refine R_aload_n dX10_laysRepair_182 rfl rfl ?_
                refine R_getR dX10_laysRepair_183 cl10 flX10_51 o_84 ff10_28 (fr10_28 _) a_94.1 ?_
                refine R_iload_n dX10_laysRepair_186 rfl rfl ?_
                refine R_iaload dX10_laysRepair_187 a_94 hg17.1 hg17.2 rfl ?_
                obtain ⟨M188, hM188, hf⟩ := ltE hf
                refine R_iastore dX10_laysRepair_188 a_101 hg18.1 hg18.2 hM188 ?_
                refine R_aload_n dX10_laysRepair_189 rfl rfl ?_
                refine R_getR dX10_laysRepair_190 cl10 flX10_77 o_84 ff10_36 (fr10_36 _) a_102.1 ?_
                refine R_iload_n dX10_laysRepair_193 rfl rfl ?_
                refine R_iload_n dX10_laysRepair_194 rfl rfl ?_
                refine R_iconst dX10_laysRepair_195 (v := 1) rfl ?_
                refine R_iadd dX10_laysRepair_196 rfl ?_
                obtain ⟨hg20, hf⟩ := gdE hf
                obtain ⟨M197, hM197, hf⟩ := ltE hf
                refine R_iastore dX10_laysRepair_197 a_102 hg20.1 hg20.2 hM197 ?_
                refine R_aload_n dX10_laysRepair_198 rfl rfl ?_
                refine R_getR dX10_laysRepair_199 cl10 flX10_80 o_84 ff10_37 (fr10_37 _) a_103.1 ?_
                refine R_iload_n dX10_laysRepair_202 rfl rfl ?_
                refine R_iload dX10_laysRepair_203 rfl ?_
                obtain ⟨M205, hM205, hf⟩ := ltE hf
                refine R_iastore dX10_laysRepair_205 a_103 hg20.1 hg20.2 hM205 ?_
                obtain ⟨v2_206, hv2_206, hf⟩ := ltE hf
                refine R_iinc dX10_laysRepair_206 rfl rfl hv2_206 (by decide) rfl ?_
                refine R_goto dX10_laysRepair_209 rfl ?_
                exact R_subk (ih _ _ _ _  hf) ⟨rfl, rfl, rfl, trivial⟩
          · replace hf := inegE hf h118
            refine R_iload_n dX10_laysRepair_121 rfl rfl ?_
            refine R_iconst dX10_laysRepair_122 (v := 1) rfl ?_
            refine R_iadd dX10_laysRepair_123 rfl ?_
            refine R_goto dX10_laysRepair_124 rfl ?_
            obtain ⟨M131, hM131, hf⟩ := ltE hf
            refine R_iastore dX10_laysRepair_131 a_102 hg1.1 hg1.2 hM131 ?_
            refine R_aload_n dX10_laysRepair_132 rfl rfl ?_
            refine R_getR dX10_laysRepair_133 cl10 flX10_80 o_84 ff10_37 (fr10_37 _) a_103.1 ?_
            refine R_iload_n dX10_laysRepair_136 rfl rfl ?_
            refine R_iload dX10_laysRepair_137 rfl ?_
            obtain ⟨M139, hM139, hf⟩ := ltE hf
            refine R_iastore dX10_laysRepair_139 a_103 hg1.1 hg1.2 hM139 ?_
            obtain ⟨v2_140, hv2_140, hf⟩ := ltE hf
            refine R_iinc dX10_laysRepair_140 rfl rfl hv2_140 (by decide) rfl ?_
            refine R_iload dX10_laysRepair_143 rfl ?_
            refine R_if_lt dX10_laysRepair_145 rfl (fun h145 => ?_) (fun h145 => ?_)
            · replace hf := iposE hf h145
              refine R_goto dX10_laysRepair_209 rfl ?_
              exact R_subk (ih _ _ _ _  hf) ⟨rfl, rfl, rfl, trivial⟩
            · replace hf := inegE hf h145
              refine R_aload_n dX10_laysRepair_148 rfl rfl ?_
              refine R_getR dX10_laysRepair_149 cl10 flX10_71 o_84 ff10_34 (fr10_34 _) a_100.1 ?_
              refine R_iload dX10_laysRepair_152 rfl ?_
              refine R_aload_n dX10_laysRepair_154 rfl rfl ?_
              refine R_getR dX10_laysRepair_155 cl10 flX10_51 o_84 ff10_28 (fr10_28 _) a_94.1 ?_
              refine R_iload dX10_laysRepair_158 rfl ?_
              obtain ⟨hg21, hf⟩ := gdE hf
              refine R_iaload dX10_laysRepair_160 a_94 hg21.1 hg21.2 rfl ?_
              refine R_aload_n dX10_laysRepair_161 rfl rfl ?_
              refine R_getR dX10_laysRepair_162 cl10 flX10_51 o_84 ff10_28 (fr10_28 _) a_94.1 ?_
              refine R_iload_n dX10_laysRepair_165 rfl rfl ?_
              refine R_iaload dX10_laysRepair_166 a_94 hg17.1 hg17.2 rfl ?_
              refine R_icmp_ne dX10_laysRepair_167 rfl (fun h167 => ?_) (fun h167 => ?_)
              · replace hf := inegE hf h167
                refine R_iconst dX10_laysRepair_174 (v := 2) rfl ?_
                obtain ⟨M175, hM175, hf⟩ := ltE hf
                refine R_iastore dX10_laysRepair_175 a_100 hg21.1 hg21.2 hM175 ?_
                refine R_aload_n dX10_laysRepair_176 rfl rfl ?_
                refine R_getR dX10_laysRepair_177 cl10 flX10_74 o_84 ff10_35 (fr10_35 _) a_101.1 ?_
                refine R_iload dX10_laysRepair_180 rfl ?_
                refine R_aload_n dX10_laysRepair_182 rfl rfl ?_
                refine R_getR dX10_laysRepair_183 cl10 flX10_51 o_84 ff10_28 (fr10_28 _) a_94.1 ?_
                refine R_iload_n dX10_laysRepair_186 rfl rfl ?_
                refine R_iaload dX10_laysRepair_187 a_94 hg17.1 hg17.2 rfl ?_
                obtain ⟨M188, hM188, hf⟩ := ltE hf
                refine R_iastore dX10_laysRepair_188 a_101 hg21.1 hg21.2 hM188 ?_
                refine R_aload_n dX10_laysRepair_189 rfl rfl ?_
                refine R_getR dX10_laysRepair_190 cl10 flX10_77 o_84 ff10_36 (fr10_36 _) a_102.1 ?_
                refine R_iload_n dX10_laysRepair_193 rfl rfl ?_
                refine R_iload_n dX10_laysRepair_194 rfl rfl ?_
                refine R_iconst dX10_laysRepair_195 (v := 1) rfl ?_
                refine R_iadd dX10_laysRepair_196 rfl ?_
                obtain ⟨hg22, hf⟩ := gdE hf
                obtain ⟨M197, hM197, hf⟩ := ltE hf
                refine R_iastore dX10_laysRepair_197 a_102 hg22.1 hg22.2 hM197 ?_
                refine R_aload_n dX10_laysRepair_198 rfl rfl ?_
                refine R_getR dX10_laysRepair_199 cl10 flX10_80 o_84 ff10_37 (fr10_37 _) a_103.1 ?_
                refine R_iload_n dX10_laysRepair_202 rfl rfl ?_
                refine R_iload dX10_laysRepair_203 rfl ?_
                obtain ⟨M205, hM205, hf⟩ := ltE hf
                refine R_iastore dX10_laysRepair_205 a_103 hg22.1 hg22.2 hM205 ?_
                obtain ⟨v2_206, hv2_206, hf⟩ := ltE hf
                refine R_iinc dX10_laysRepair_206 rfl rfl hv2_206 (by decide) rfl ?_
                refine R_goto dX10_laysRepair_209 rfl ?_
                exact R_subk (ih _ _ _ _  hf) ⟨rfl, rfl, rfl, trivial⟩
              · replace hf := iposE hf h167
                refine R_iconst dX10_laysRepair_170 (v := (-1)) rfl ?_
                refine R_goto dX10_laysRepair_171 rfl ?_
                obtain ⟨M175, hM175, hf⟩ := ltE hf
                refine R_iastore dX10_laysRepair_175 a_100 hg21.1 hg21.2 hM175 ?_
                refine R_aload_n dX10_laysRepair_176 rfl rfl ?_
                refine R_getR dX10_laysRepair_177 cl10 flX10_74 o_84 ff10_35 (fr10_35 _) a_101.1 ?_
                refine R_iload dX10_laysRepair_180 rfl ?_
                refine R_aload_n dX10_laysRepair_182 rfl rfl ?_
                refine R_getR dX10_laysRepair_183 cl10 flX10_51 o_84 ff10_28 (fr10_28 _) a_94.1 ?_
                refine R_iload_n dX10_laysRepair_186 rfl rfl ?_
                refine R_iaload dX10_laysRepair_187 a_94 hg17.1 hg17.2 rfl ?_
                obtain ⟨M188, hM188, hf⟩ := ltE hf
                refine R_iastore dX10_laysRepair_188 a_101 hg21.1 hg21.2 hM188 ?_
                refine R_aload_n dX10_laysRepair_189 rfl rfl ?_
                refine R_getR dX10_laysRepair_190 cl10 flX10_77 o_84 ff10_36 (fr10_36 _) a_102.1 ?_
                refine R_iload_n dX10_laysRepair_193 rfl rfl ?_
                refine R_iload_n dX10_laysRepair_194 rfl rfl ?_
                refine R_iconst dX10_laysRepair_195 (v := 1) rfl ?_
                refine R_iadd dX10_laysRepair_196 rfl ?_
                obtain ⟨hg23, hf⟩ := gdE hf
                obtain ⟨M197, hM197, hf⟩ := ltE hf
                refine R_iastore dX10_laysRepair_197 a_102 hg23.1 hg23.2 hM197 ?_
                refine R_aload_n dX10_laysRepair_198 rfl rfl ?_
                refine R_getR dX10_laysRepair_199 cl10 flX10_80 o_84 ff10_37 (fr10_37 _) a_103.1 ?_
                refine R_iload_n dX10_laysRepair_202 rfl rfl ?_
                refine R_iload dX10_laysRepair_203 rfl ?_
                obtain ⟨M205, hM205, hf⟩ := ltE hf
                refine R_iastore dX10_laysRepair_205 a_103 hg23.1 hg23.2 hM205 ?_
                obtain ⟨v2_206, hv2_206, hf⟩ := ltE hf
                refine R_iinc dX10_laysRepair_206 rfl rfl hv2_206 (by decide) rfl ?_
                refine R_goto dX10_laysRepair_209 rfl ?_
                exact R_subk (ih _ _ _ _  hf) ⟨rfl, rfl, rfl, trivial⟩
      · replace hf := iposE hf h50
        refine R_goto dX10_laysRepair_53 rfl ?_
        exact R_subk (ih _ _ _ _  hf) ⟨rfl, rfl, rfl, trivial⟩
set_option maxRecDepth 20000 in
theorem ct_X10_laysRepair {G : Gl}  (M : Mem) {res : Int × Mem}  (hf : f_X10_laysRepair  M = some res) : Ct G miX10_laysRepair yX10_laysRepair 4 [aR 84] M (some (aI res.1)) res.2 := by
  refine Ct.of (L := [some (aR 84), none, none, none, none, none]) mwX10_laysRepair rfl trivial nle ⟨rfl, trivial⟩ ?_
  unfold f_X10_laysRepair at hf
  refine R_aload_n dX10_laysRepair_0 rfl rfl ?_
  refine R_iconst dX10_laysRepair_1 (v := (-1)) rfl ?_
  obtain ⟨p2, hp2, hf⟩ := bdE hf
  refine R_callV (As := [aI (-1)]) (st := []) dX10_laysRepair_2 (ct_X10_costOf _ _  hp2) mwX10_costOf mvX10_costOf mlX10_343 cl10 o_84 rfl rfl ⟨nle, nle, nle, nle⟩ nle rfl ?_
  obtain ⟨v1_5, hv1_5, hf⟩ := ltE hf
  refine R_istore_n dX10_laysRepair_5 rfl (by decide) hv1_5 rfl ?_
  refine R_iconst dX10_laysRepair_6 (v := 1) rfl ?_
  refine R_istore_n dX10_laysRepair_7 rfl (by decide) rfl rfl ?_
  refine R_aload_n dX10_laysRepair_8 rfl rfl ?_
  refine R_getR dX10_laysRepair_9 cl10 flX10_77 o_84 ff10_36 (fr10_36 _) a_102.1 ?_
  refine R_iconst dX10_laysRepair_12 (v := 0) rfl ?_
  refine R_iconst dX10_laysRepair_13 (v := 0) rfl ?_
  obtain ⟨M14, hM14, hf⟩ := ltE hf
  refine R_iastore dX10_laysRepair_14 a_102 (by decide) (by decide) hM14 ?_
  refine R_aload_n dX10_laysRepair_15 rfl rfl ?_
  refine R_getR dX10_laysRepair_16 cl10 flX10_80 o_84 ff10_37 (fr10_37 _) a_103.1 ?_
  refine R_iconst dX10_laysRepair_19 (v := 0) rfl ?_
  refine R_aload_n dX10_laysRepair_20 rfl rfl ?_
  refine R_getI (ki := 26) dX10_laysRepair_21 cl10 flX10_264 o_84 ff10_26 rfl rfl ?_
  obtain ⟨M24, hM24, hf⟩ := ltE hf
  refine R_iastore dX10_laysRepair_24 a_103 (by decide) (by decide) hM24 ?_
  exact R_subk (rn_X10_laysRepair_L25 4096 _ _ _ _  hf) ⟨rfl, rfl, rfl, trivial⟩
/-! BracketHallModel.steps()I -/
def f_X10_steps_L4 : Nat → Int → Int → Mem → Option (Int)
  | 0, _, _, _ => none
  | n + 1, v1, v2, M =>
    if (M 84 26) ≤ v2 then
      some v1
    else
      if (0 : Int) ≤ v2 ∧ v2 < 240 then
      if (M 100 v2) = (-1) then
        lt1 (w32 (v1 + 0)) fun v1_29 =>
        lt1 (w32 (v2 + 1)) fun v2_30 =>
        f_X10_steps_L4 n v1_29 v2_30 M
      else
        lt1 (w32 (v1 + 1)) fun v1_29 =>
        lt1 (w32 (v2 + 1)) fun v2_30 =>
        f_X10_steps_L4 n v1_29 v2_30 M
      else none
def f_X10_steps  (M : Mem) : Option (Int) :=
  f_X10_steps_L4 4096 0 0 M
set_option maxRecDepth 20000 in
theorem rn_X10_steps_L4 {G : Gl} : ∀ (n : Nat) (v1 : Int) (v2 : Int) (M : Mem) (res : Int),  f_X10_steps_L4 n v1 v2 M = some res → Run G false (rmD 0 0 0) miX10_steps (ZP G (some (aI res)) M) 0 0 4 [some (aR 84), some (aI v1), some (aI v2)] [] M := by
  intro n
  induction n with
  | zero => intro v1 v2 M res  hf; cases hf
  | succ n ih =>
    intro v1 v2 M res  hf
    rw [f_X10_steps_L4] at hf
    refine R_iload_n dX10_steps_4 rfl rfl ?_
    refine R_aload_n dX10_steps_5 rfl rfl ?_
    refine R_getI (ki := 26) dX10_steps_6 cl10 flX10_264 o_84 ff10_26 rfl rfl ?_
    refine R_icmp_ge dX10_steps_9 rfl (fun h9 => ?_) (fun h9 => ?_)
    · replace hf := iposE hf h9
      refine R_iload_n dX10_steps_36 rfl rfl ?_
      cases hf; exact E_iret dX10_steps_37 rfl rfl rfl
    · replace hf := inegE hf h9
      refine R_iload_n dX10_steps_12 rfl rfl ?_
      refine R_aload_n dX10_steps_13 rfl rfl ?_
      refine R_getR dX10_steps_14 cl10 flX10_71 o_84 ff10_34 (fr10_34 _) a_100.1 ?_
      refine R_iload_n dX10_steps_17 rfl rfl ?_
      obtain ⟨hg1, hf⟩ := gdE hf
      refine R_iaload dX10_steps_18 a_100 hg1.1 hg1.2 rfl ?_
      refine R_iconst dX10_steps_19 (v := (-1)) rfl ?_
      refine R_icmp_eq dX10_steps_20 rfl (fun h20 => ?_) (fun h20 => ?_)
      · replace hf := iposE hf h20
        refine R_iconst dX10_steps_27 (v := 0) rfl ?_
        refine R_iadd dX10_steps_28 rfl ?_
        obtain ⟨v1_29, hv1_29, hf⟩ := ltE hf
        refine R_istore_n dX10_steps_29 rfl (by decide) hv1_29 rfl ?_
        obtain ⟨v2_30, hv2_30, hf⟩ := ltE hf
        refine R_iinc dX10_steps_30 rfl rfl hv2_30 (by decide) rfl ?_
        refine R_goto dX10_steps_33 rfl ?_
        exact R_subk (ih _ _ _ _  hf) ⟨rfl, rfl, rfl, trivial⟩
      · replace hf := inegE hf h20
        refine R_iconst dX10_steps_23 (v := 1) rfl ?_
        refine R_goto dX10_steps_24 rfl ?_
        refine R_iadd dX10_steps_28 rfl ?_
        obtain ⟨v1_29, hv1_29, hf⟩ := ltE hf
        refine R_istore_n dX10_steps_29 rfl (by decide) hv1_29 rfl ?_
        obtain ⟨v2_30, hv2_30, hf⟩ := ltE hf
        refine R_iinc dX10_steps_30 rfl rfl hv2_30 (by decide) rfl ?_
        refine R_goto dX10_steps_33 rfl ?_
        exact R_subk (ih _ _ _ _  hf) ⟨rfl, rfl, rfl, trivial⟩
set_option maxRecDepth 20000 in
theorem ct_X10_steps {G : Gl}  (M : Mem) {res : Int}  (hf : f_X10_steps  M = some res) : Ct G miX10_steps yX10_steps 0 [aR 84] M (some (aI res)) M := by
  refine Ct.of (L := [some (aR 84), none, none]) mwX10_steps rfl trivial nle ⟨rfl, trivial⟩ ?_
  unfold f_X10_steps at hf
  refine R_iconst dX10_steps_0 (v := 0) rfl ?_
  refine R_istore_n dX10_steps_1 rfl (by decide) rfl rfl ?_
  refine R_iconst dX10_steps_2 (v := 0) rfl ?_
  refine R_istore_n dX10_steps_3 rfl (by decide) rfl rfl ?_
  exact R_subk (rn_X10_steps_L4 4096 _ _ _ _  hf) ⟨rfl, rfl, rfl, trivial⟩
/-! BracketHallModel.repairCost()I -/
def f_X10_repairCost  (M : Mem) : Option (Int × Mem) :=
  lt1 (up M 84 0 0) fun M2 =>
  (f_X10_costOf (-1) M2).bind fun p7 =>
  some (p7.1, p7.2)
set_option maxRecDepth 20000 in
theorem ct_X10_repairCost {G : Gl}  (M : Mem) {res : Int × Mem}  (hf : f_X10_repairCost  M = some res) : Ct G miX10_repairCost yX10_repairCost 4 [aR 84] M (some (aI res.1)) res.2 := by
  refine Ct.of (L := [some (aR 84)]) mwX10_repairCost rfl trivial nle ⟨rfl, trivial⟩ ?_
  unfold f_X10_repairCost at hf
  refine R_aload_n dX10_repairCost_0 rfl rfl ?_
  refine R_iconst dX10_repairCost_1 (v := 0) rfl ?_
  obtain ⟨M2, hM2, hf⟩ := ltE hf
  refine R_put (ki := 0) dX10_repairCost_2 cl10 flX10_117 o_84 (Or.inl fz10_0) rfl hM2 ?_
  refine R_aload_n dX10_repairCost_5 rfl rfl ?_
  refine R_iconst dX10_repairCost_6 (v := (-1)) rfl ?_
  obtain ⟨p7, hp7, hf⟩ := bdE hf
  refine R_callV (As := [aI (-1)]) (st := []) dX10_repairCost_7 (ct_X10_costOf _ _  hp7) mwX10_costOf mvX10_costOf mlX10_343 cl10 o_84 rfl rfl ⟨nle, nle, nle, nle⟩ nle rfl ?_
  cases hf; exact E_iret dX10_repairCost_10 rfl rfl rfl
/-! BracketHallModel.repairSteps()I -/
def f_X10_repairSteps  (M : Mem) : Option (Int × Mem) :=
  lt1 (up M 84 0 0) fun M2 =>
  (f_X10_laysRepair M2).bind fun p6 =>
  lt1 (p6.1) fun v1_9 =>
  (f_X10_steps p6.2).bind fun p11 =>
  some (p11, p6.2)
set_option maxRecDepth 20000 in
theorem ct_X10_repairSteps {G : Gl}  (M : Mem) {res : Int × Mem}  (hf : f_X10_repairSteps  M = some res) : Ct G miX10_repairSteps yX10_repairSteps 5 [aR 84] M (some (aI res.1)) res.2 := by
  refine Ct.of (L := [some (aR 84), none]) mwX10_repairSteps rfl trivial nle ⟨rfl, trivial⟩ ?_
  unfold f_X10_repairSteps at hf
  refine R_aload_n dX10_repairSteps_0 rfl rfl ?_
  refine R_iconst dX10_repairSteps_1 (v := 0) rfl ?_
  obtain ⟨M2, hM2, hf⟩ := ltE hf
  refine R_put (ki := 0) dX10_repairSteps_2 cl10 flX10_117 o_84 (Or.inl fz10_0) rfl hM2 ?_
  refine R_aload_n dX10_repairSteps_5 rfl rfl ?_
  obtain ⟨p6, hp6, hf⟩ := bdE hf
  refine R_callV (As := []) (st := []) dX10_repairSteps_6 (ct_X10_laysRepair  _  hp6) mwX10_laysRepair mvX10_laysRepair mlX10_346 cl10 o_84 rfl rfl ⟨nle, nle, nle, nle⟩ nle rfl ?_
  obtain ⟨v1_9, hv1_9, hf⟩ := ltE hf
  refine R_istore_n dX10_repairSteps_9 rfl (by decide) hv1_9 rfl ?_
  refine R_aload_n dX10_repairSteps_10 rfl rfl ?_
  obtain ⟨p11, hp11, hf⟩ := bdE hf
  refine R_callV (As := []) (st := []) dX10_repairSteps_11 (ct_X10_steps  _  hp11) mwX10_steps mvX10_steps mlX10_349 cl10 o_84 rfl rfl ⟨nle, nle, nle, nle⟩ nle rfl ?_
  cases hf; exact E_iret dX10_repairSteps_14 rfl rfl rfl
/-! BracketHallModel.repairStep(II)I -/
def f_X10_repairStep_K110 (v2 : Int) (v4 : Int) (M : Mem) : Option (Int × Mem) :=
  if v2 = 0 then
    if (0 : Int) ≤ v4 ∧ v4 < 240 then
    some (M 100 v4, M)
    else none
  else
    if v2 = 1 then
      if (0 : Int) ≤ v4 ∧ v4 < 240 then
      some (M 93 v4, M)
      else none
    else
      if (0 : Int) ≤ v4 ∧ v4 < 240 then
      some (M 101 v4, M)
      else none
def f_X10_repairStep_L67 : Nat → Int → Int → Int → Mem → Option (Int × Mem)
  | 0, _, _, _, _ => none
  | n + 1, v2, v4, v5, M =>
    if (0 : Int) ≤ v4 ∧ v4 < 240 then
    if (M 100 v4) = (-1) then
      if (M 100 v4) = (-1) then
        lt1 (w32 (v5 - 0)) fun v5_102 =>
        lt1 (w32 (v4 + 1)) fun v4_104 =>
        f_X10_repairStep_L67 n v2 v4_104 v5_102 M
      else
        lt1 (w32 (v5 - 1)) fun v5_102 =>
        lt1 (w32 (v4 + 1)) fun v4_104 =>
        f_X10_repairStep_L67 n v2 v4_104 v5_102 M
    else
      if v5 ≤ 0 then
        f_X10_repairStep_K110 v2 v4 M
      else
        if (M 100 v4) = (-1) then
          lt1 (w32 (v5 - 0)) fun v5_102 =>
          lt1 (w32 (v4 + 1)) fun v4_104 =>
          f_X10_repairStep_L67 n v2 v4_104 v5_102 M
        else
          lt1 (w32 (v5 - 1)) fun v5_102 =>
          lt1 (w32 (v4 + 1)) fun v4_104 =>
          f_X10_repairStep_L67 n v2 v4_104 v5_102 M
    else none
def f_X10_repairStep (v1 : Int) (v2 : Int) (M : Mem) : Option (Int × Mem) :=
  lt1 (up M 84 0 0) fun M2 =>
  (f_X10_laysRepair M2).bind fun p6 =>
  lt1 (p6.1) fun v3_9 =>
  (f_X10_steps p6.2).bind fun p14 =>
  (f_X10_isIn v1 0 (w32 (p14 - 1)) p6.2).bind fun p19 =>
  if p19 = 0 then
    (f_X10_throwsIf 1 1 p6.2).bind fun p31 =>
    if p31.1 = 0 then
      (f_X10_isIn v2 0 2 p31.2).bind fun p41 =>
      if p41 = 0 then
        (f_X10_throwsIf 1 2 p31.2).bind fun p53 =>
        if p53.1 = 0 then
          f_X10_repairStep_L67 4096 v2 0 v1 p53.2
        else
          some (0, p53.2)
      else
        (f_X10_throwsIf 0 2 p31.2).bind fun p53 =>
        if p53.1 = 0 then
          f_X10_repairStep_L67 4096 v2 0 v1 p53.2
        else
          some (0, p53.2)
    else
      some (0, p31.2)
  else
    (f_X10_throwsIf 0 1 p6.2).bind fun p31 =>
    if p31.1 = 0 then
      (f_X10_isIn v2 0 2 p31.2).bind fun p41 =>
      if p41 = 0 then
        (f_X10_throwsIf 1 2 p31.2).bind fun p53 =>
        if p53.1 = 0 then
          f_X10_repairStep_L67 4096 v2 0 v1 p53.2
        else
          some (0, p53.2)
      else
        (f_X10_throwsIf 0 2 p31.2).bind fun p53 =>
        if p53.1 = 0 then
          f_X10_repairStep_L67 4096 v2 0 v1 p53.2
        else
          some (0, p53.2)
    else
      some (0, p31.2)
set_option maxRecDepth 20000 in
theorem rn_X10_repairStep_K110 {G : Gl} (v2 : Int) (v4 : Int) (M : Mem) (res : Int × Mem)  (hf : f_X10_repairStep_K110 v2 v4 M = some res) : Run G false (rmD 5 0 0) miX10_repairStep (ZP G (some (aI res.1)) res.2) 0 0 110 [some (aR 84), none, some (aI v2), none, some (aI v4), none] [] M := by
  unfold f_X10_repairStep_K110 at hf
  refine R_iload_n dX10_repairStep_110 rfl rfl ?_
  refine R_if_ne dX10_repairStep_111 rfl (fun h111 => ?_) (fun h111 => ?_)
  · replace hf := inegE hf h111
    refine R_iload_n dX10_repairStep_124 rfl rfl ?_
    refine R_iconst dX10_repairStep_125 (v := 1) rfl ?_
    refine R_icmp_ne dX10_repairStep_126 rfl (fun h126 => ?_) (fun h126 => ?_)
    · replace hf := inegE hf h126
      refine R_aload_n dX10_repairStep_139 rfl rfl ?_
      refine R_getR dX10_repairStep_140 cl10 flX10_74 o_84 ff10_35 (fr10_35 _) a_101.1 ?_
      refine R_iload dX10_repairStep_143 rfl ?_
      obtain ⟨hg1, hf⟩ := gdE hf
      refine R_iaload dX10_repairStep_145 a_101 hg1.1 hg1.2 rfl ?_
      cases hf; exact E_iret dX10_repairStep_146 rfl rfl rfl
    · replace hf := iposE hf h126
      refine R_aload_n dX10_repairStep_129 rfl rfl ?_
      refine R_getR dX10_repairStep_130 cl10 flX10_48 o_84 ff10_27 (fr10_27 _) a_93.1 ?_
      refine R_iload dX10_repairStep_133 rfl ?_
      obtain ⟨hg2, hf⟩ := gdE hf
      refine R_iaload dX10_repairStep_135 a_93 hg2.1 hg2.2 rfl ?_
      refine R_goto dX10_repairStep_136 rfl ?_
      cases hf; exact E_iret dX10_repairStep_146 rfl rfl rfl
  · replace hf := iposE hf h111
    refine R_aload_n dX10_repairStep_114 rfl rfl ?_
    refine R_getR dX10_repairStep_115 cl10 flX10_71 o_84 ff10_34 (fr10_34 _) a_100.1 ?_
    refine R_iload dX10_repairStep_118 rfl ?_
    obtain ⟨hg3, hf⟩ := gdE hf
    refine R_iaload dX10_repairStep_120 a_100 hg3.1 hg3.2 rfl ?_
    refine R_goto dX10_repairStep_121 rfl ?_
    cases hf; exact E_iret dX10_repairStep_146 rfl rfl rfl
set_option maxRecDepth 20000 in
theorem rn_X10_repairStep_L67 {G : Gl} : ∀ (n : Nat) (v2 : Int) (v4 : Int) (v5 : Int) (M : Mem) (res : Int × Mem),  f_X10_repairStep_L67 n v2 v4 v5 M = some res → Run G false (rmD 5 0 0) miX10_repairStep (ZP G (some (aI res.1)) res.2) 0 0 67 [some (aR 84), none, some (aI v2), none, some (aI v4), some (aI v5)] [] M := by
  intro n
  induction n with
  | zero => intro v2 v4 v5 M res  hf; cases hf
  | succ n ih =>
    intro v2 v4 v5 M res  hf
    rw [f_X10_repairStep_L67] at hf
    refine R_aload_n dX10_repairStep_67 rfl rfl ?_
    refine R_getR dX10_repairStep_68 cl10 flX10_71 o_84 ff10_34 (fr10_34 _) a_100.1 ?_
    refine R_iload dX10_repairStep_71 rfl ?_
    obtain ⟨hg4, hf⟩ := gdE hf
    refine R_iaload dX10_repairStep_73 a_100 hg4.1 hg4.2 rfl ?_
    refine R_iconst dX10_repairStep_74 (v := (-1)) rfl ?_
    refine R_icmp_eq dX10_repairStep_75 rfl (fun h75 => ?_) (fun h75 => ?_)
    · replace hf := iposE hf h75
      refine R_iload dX10_repairStep_83 rfl ?_
      refine R_aload_n dX10_repairStep_85 rfl rfl ?_
      refine R_getR dX10_repairStep_86 cl10 flX10_71 o_84 ff10_34 (fr10_34 _) a_100.1 ?_
      refine R_iload dX10_repairStep_89 rfl ?_
      refine R_iaload dX10_repairStep_91 a_100 hg4.1 hg4.2 rfl ?_
      refine R_iconst dX10_repairStep_92 (v := (-1)) rfl ?_
      refine R_icmp_ne dX10_repairStep_93 rfl (fun h93 => ?_) (fun h93 => ?_)
      · replace hf := inegE hf h93
        refine R_iconst dX10_repairStep_100 (v := 1) rfl ?_
        refine R_isub dX10_repairStep_101 rfl ?_
        obtain ⟨v5_102, hv5_102, hf⟩ := ltE hf
        refine R_istore dX10_repairStep_102 (by decide) hv5_102 rfl ?_
        obtain ⟨v4_104, hv4_104, hf⟩ := ltE hf
        refine R_iinc dX10_repairStep_104 rfl rfl hv4_104 (by decide) rfl ?_
        refine R_goto dX10_repairStep_107 rfl ?_
        exact R_subk (ih _ _ _ _ _  hf) ⟨rfl, rfl, rfl, rfl, trivial⟩
      · replace hf := iposE hf h93
        refine R_iconst dX10_repairStep_96 (v := 0) rfl ?_
        refine R_goto dX10_repairStep_97 rfl ?_
        refine R_isub dX10_repairStep_101 rfl ?_
        obtain ⟨v5_102, hv5_102, hf⟩ := ltE hf
        refine R_istore dX10_repairStep_102 (by decide) hv5_102 rfl ?_
        obtain ⟨v4_104, hv4_104, hf⟩ := ltE hf
        refine R_iinc dX10_repairStep_104 rfl rfl hv4_104 (by decide) rfl ?_
        refine R_goto dX10_repairStep_107 rfl ?_
        exact R_subk (ih _ _ _ _ _  hf) ⟨rfl, rfl, rfl, rfl, trivial⟩
    · replace hf := inegE hf h75
      refine R_iload dX10_repairStep_78 rfl ?_
      refine R_if_le dX10_repairStep_80 rfl (fun h80 => ?_) (fun h80 => ?_)
      · replace hf := iposE hf h80
        exact R_subk (rn_X10_repairStep_K110 _ _ _ _  hf) ⟨rfl, rfl, rfl, trivial⟩
      · replace hf := inegE hf h80
        refine R_iload dX10_repairStep_83 rfl ?_
        refine R_aload_n dX10_repairStep_85 rfl rfl ?_
        refine R_getR dX10_repairStep_86 cl10 flX10_71 o_84 ff10_34 (fr10_34 _) a_100.1 ?_
        refine R_iload dX10_repairStep_89 rfl ?_
        refine R_iaload dX10_repairStep_91 a_100 hg4.1 hg4.2 rfl ?_
        refine R_iconst dX10_repairStep_92 (v := (-1)) rfl ?_
        refine R_icmp_ne dX10_repairStep_93 rfl (fun h93 => ?_) (fun h93 => ?_)
        · replace hf := inegE hf h93
          refine R_iconst dX10_repairStep_100 (v := 1) rfl ?_
          refine R_isub dX10_repairStep_101 rfl ?_
          obtain ⟨v5_102, hv5_102, hf⟩ := ltE hf
          refine R_istore dX10_repairStep_102 (by decide) hv5_102 rfl ?_
          obtain ⟨v4_104, hv4_104, hf⟩ := ltE hf
          refine R_iinc dX10_repairStep_104 rfl rfl hv4_104 (by decide) rfl ?_
          refine R_goto dX10_repairStep_107 rfl ?_
          exact R_subk (ih _ _ _ _ _  hf) ⟨rfl, rfl, rfl, rfl, trivial⟩
        · replace hf := iposE hf h93
          refine R_iconst dX10_repairStep_96 (v := 0) rfl ?_
          refine R_goto dX10_repairStep_97 rfl ?_
          refine R_isub dX10_repairStep_101 rfl ?_
          obtain ⟨v5_102, hv5_102, hf⟩ := ltE hf
          refine R_istore dX10_repairStep_102 (by decide) hv5_102 rfl ?_
          obtain ⟨v4_104, hv4_104, hf⟩ := ltE hf
          refine R_iinc dX10_repairStep_104 rfl rfl hv4_104 (by decide) rfl ?_
          refine R_goto dX10_repairStep_107 rfl ?_
          exact R_subk (ih _ _ _ _ _  hf) ⟨rfl, rfl, rfl, rfl, trivial⟩
set_option maxRecDepth 20000 in
theorem ct_X10_repairStep {G : Gl} (v1 : Int) (v2 : Int) (M : Mem) {res : Int × Mem}  (hf : f_X10_repairStep v1 v2 M = some res) : Ct G miX10_repairStep yX10_repairStep 5 [aR 84, aI v1, aI v2] M (some (aI res.1)) res.2 := by
  refine Ct.of (L := [some (aR 84), some (aI v1), some (aI v2), none, none, none]) mwX10_repairStep rfl trivial nle ⟨rfl, rfl, rfl, trivial⟩ ?_
  unfold f_X10_repairStep at hf
  refine R_aload_n dX10_repairStep_0 rfl rfl ?_
  refine R_iconst dX10_repairStep_1 (v := 0) rfl ?_
  obtain ⟨M2, hM2, hf⟩ := ltE hf
  refine R_put (ki := 0) dX10_repairStep_2 cl10 flX10_117 o_84 (Or.inl fz10_0) rfl hM2 ?_
  refine R_aload_n dX10_repairStep_5 rfl rfl ?_
  obtain ⟨p6, hp6, hf⟩ := bdE hf
  refine R_callV (As := []) (st := []) dX10_repairStep_6 (ct_X10_laysRepair  _  hp6) mwX10_laysRepair mvX10_laysRepair mlX10_346 cl10 o_84 rfl rfl ⟨nle, nle, nle, nle⟩ nle rfl ?_
  obtain ⟨v3_9, hv3_9, hf⟩ := ltE hf
  refine R_istore_n dX10_repairStep_9 rfl (by decide) hv3_9 rfl ?_
  refine R_aload_n dX10_repairStep_10 rfl rfl ?_
  refine R_iload_n dX10_repairStep_11 rfl rfl ?_
  refine R_iconst dX10_repairStep_12 (v := 0) rfl ?_
  refine R_aload_n dX10_repairStep_13 rfl rfl ?_
  obtain ⟨p14, hp14, hf⟩ := bdE hf
  refine R_callV (As := []) (st := [aI 0, aI v1, aR 84]) dX10_repairStep_14 (ct_X10_steps  _  hp14) mwX10_steps mvX10_steps mlX10_349 cl10 o_84 rfl rfl ⟨nle, nle, nle, nle⟩ nle rfl ?_
  refine R_iconst dX10_repairStep_17 (v := 1) rfl ?_
  refine R_isub dX10_repairStep_18 rfl ?_
  obtain ⟨p19, hp19, hf⟩ := bdE hf
  refine R_callS (As := [aI v1, aI 0, aI (w32 (p14 - 1))]) (st := [aR 84]) dX10_repairStep_19 (ct_X10_isIn _ _ _ _  hp19) mwX10_isIn msX10_isIn mlX10_130 rfl ⟨nle, nle, nle, nle⟩ nle rfl ?_
  refine R_if_ne dX10_repairStep_22 rfl (fun h22 => ?_) (fun h22 => ?_)
  · replace hf := inegE hf h22
    refine R_iconst dX10_repairStep_29 (v := 0) rfl ?_
    refine R_iconst dX10_repairStep_30 (v := 1) rfl ?_
    obtain ⟨p31, hp31, hf⟩ := bdE hf
    refine R_callV (As := [aI 0, aI 1]) (st := []) dX10_repairStep_31 (ct_X10_throwsIf _ _ _  hp31) mwX10_throwsIf mvX10_throwsIf mlX10_227 cl10 o_84 rfl rfl ⟨nle, nle, nle, nle⟩ nle rfl ?_
    refine R_if_ne dX10_repairStep_34 rfl (fun h34 => ?_) (fun h34 => ?_)
    · replace hf := inegE hf h34
      refine R_iconst dX10_repairStep_59 (v := 0) rfl ?_
      cases hf; exact E_iret dX10_repairStep_60 rfl rfl rfl
    · replace hf := iposE hf h34
      refine R_aload_n dX10_repairStep_37 rfl rfl ?_
      refine R_iload_n dX10_repairStep_38 rfl rfl ?_
      refine R_iconst dX10_repairStep_39 (v := 0) rfl ?_
      refine R_iconst dX10_repairStep_40 (v := 2) rfl ?_
      obtain ⟨p41, hp41, hf⟩ := bdE hf
      refine R_callS (As := [aI v2, aI 0, aI 2]) (st := [aR 84]) dX10_repairStep_41 (ct_X10_isIn _ _ _ _  hp41) mwX10_isIn msX10_isIn mlX10_130 rfl ⟨nle, nle, nle, nle⟩ nle rfl ?_
      refine R_if_ne dX10_repairStep_44 rfl (fun h44 => ?_) (fun h44 => ?_)
      · replace hf := inegE hf h44
        refine R_iconst dX10_repairStep_51 (v := 0) rfl ?_
        refine R_iconst dX10_repairStep_52 (v := 2) rfl ?_
        obtain ⟨p53, hp53, hf⟩ := bdE hf
        refine R_callV (As := [aI 0, aI 2]) (st := []) dX10_repairStep_53 (ct_X10_throwsIf _ _ _  hp53) mwX10_throwsIf mvX10_throwsIf mlX10_227 cl10 o_84 rfl rfl ⟨nle, nle, nle, nle⟩ nle rfl ?_
        refine R_if_eq dX10_repairStep_56 rfl (fun h56 => ?_) (fun h56 => ?_)
        · replace hf := iposE hf h56
          refine R_iconst dX10_repairStep_61 (v := 0) rfl ?_
          refine R_istore dX10_repairStep_62 (by decide) rfl rfl ?_
          refine R_iload_n dX10_repairStep_64 rfl rfl ?_
          refine R_istore dX10_repairStep_65 (by decide) rfl rfl ?_
          exact R_subk (rn_X10_repairStep_L67 4096 _ _ _ _ _  hf) ⟨rfl, rfl, rfl, rfl, trivial⟩
        · replace hf := inegE hf h56
          refine R_iconst dX10_repairStep_59 (v := 0) rfl ?_
          cases hf; exact E_iret dX10_repairStep_60 rfl rfl rfl
      · replace hf := iposE hf h44
        refine R_iconst dX10_repairStep_47 (v := 1) rfl ?_
        refine R_goto dX10_repairStep_48 rfl ?_
        refine R_iconst dX10_repairStep_52 (v := 2) rfl ?_
        obtain ⟨p53, hp53, hf⟩ := bdE hf
        refine R_callV (As := [aI 1, aI 2]) (st := []) dX10_repairStep_53 (ct_X10_throwsIf _ _ _  hp53) mwX10_throwsIf mvX10_throwsIf mlX10_227 cl10 o_84 rfl rfl ⟨nle, nle, nle, nle⟩ nle rfl ?_
        refine R_if_eq dX10_repairStep_56 rfl (fun h56 => ?_) (fun h56 => ?_)
        · replace hf := iposE hf h56
          refine R_iconst dX10_repairStep_61 (v := 0) rfl ?_
          refine R_istore dX10_repairStep_62 (by decide) rfl rfl ?_
          refine R_iload_n dX10_repairStep_64 rfl rfl ?_
          refine R_istore dX10_repairStep_65 (by decide) rfl rfl ?_
          exact R_subk (rn_X10_repairStep_L67 4096 _ _ _ _ _  hf) ⟨rfl, rfl, rfl, rfl, trivial⟩
        · replace hf := inegE hf h56
          refine R_iconst dX10_repairStep_59 (v := 0) rfl ?_
          cases hf; exact E_iret dX10_repairStep_60 rfl rfl rfl
  · replace hf := iposE hf h22
    refine R_iconst dX10_repairStep_25 (v := 1) rfl ?_
    refine R_goto dX10_repairStep_26 rfl ?_
    refine R_iconst dX10_repairStep_30 (v := 1) rfl ?_
    obtain ⟨p31, hp31, hf⟩ := bdE hf
    refine R_callV (As := [aI 1, aI 1]) (st := []) dX10_repairStep_31 (ct_X10_throwsIf _ _ _  hp31) mwX10_throwsIf mvX10_throwsIf mlX10_227 cl10 o_84 rfl rfl ⟨nle, nle, nle, nle⟩ nle rfl ?_
    refine R_if_ne dX10_repairStep_34 rfl (fun h34 => ?_) (fun h34 => ?_)
    · replace hf := inegE hf h34
      refine R_iconst dX10_repairStep_59 (v := 0) rfl ?_
      cases hf; exact E_iret dX10_repairStep_60 rfl rfl rfl
    · replace hf := iposE hf h34
      refine R_aload_n dX10_repairStep_37 rfl rfl ?_
      refine R_iload_n dX10_repairStep_38 rfl rfl ?_
      refine R_iconst dX10_repairStep_39 (v := 0) rfl ?_
      refine R_iconst dX10_repairStep_40 (v := 2) rfl ?_
      obtain ⟨p41, hp41, hf⟩ := bdE hf
      refine R_callS (As := [aI v2, aI 0, aI 2]) (st := [aR 84]) dX10_repairStep_41 (ct_X10_isIn _ _ _ _  hp41) mwX10_isIn msX10_isIn mlX10_130 rfl ⟨nle, nle, nle, nle⟩ nle rfl ?_
      refine R_if_ne dX10_repairStep_44 rfl (fun h44 => ?_) (fun h44 => ?_)
      · replace hf := inegE hf h44
        refine R_iconst dX10_repairStep_51 (v := 0) rfl ?_
        refine R_iconst dX10_repairStep_52 (v := 2) rfl ?_
        obtain ⟨p53, hp53, hf⟩ := bdE hf
        refine R_callV (As := [aI 0, aI 2]) (st := []) dX10_repairStep_53 (ct_X10_throwsIf _ _ _  hp53) mwX10_throwsIf mvX10_throwsIf mlX10_227 cl10 o_84 rfl rfl ⟨nle, nle, nle, nle⟩ nle rfl ?_
        refine R_if_eq dX10_repairStep_56 rfl (fun h56 => ?_) (fun h56 => ?_)
        · replace hf := iposE hf h56
          refine R_iconst dX10_repairStep_61 (v := 0) rfl ?_
          refine R_istore dX10_repairStep_62 (by decide) rfl rfl ?_
          refine R_iload_n dX10_repairStep_64 rfl rfl ?_
          refine R_istore dX10_repairStep_65 (by decide) rfl rfl ?_
          exact R_subk (rn_X10_repairStep_L67 4096 _ _ _ _ _  hf) ⟨rfl, rfl, rfl, rfl, trivial⟩
        · replace hf := inegE hf h56
          refine R_iconst dX10_repairStep_59 (v := 0) rfl ?_
          cases hf; exact E_iret dX10_repairStep_60 rfl rfl rfl
      · replace hf := iposE hf h44
        refine R_iconst dX10_repairStep_47 (v := 1) rfl ?_
        refine R_goto dX10_repairStep_48 rfl ?_
        refine R_iconst dX10_repairStep_52 (v := 2) rfl ?_
        obtain ⟨p53, hp53, hf⟩ := bdE hf
        refine R_callV (As := [aI 1, aI 2]) (st := []) dX10_repairStep_53 (ct_X10_throwsIf _ _ _  hp53) mwX10_throwsIf mvX10_throwsIf mlX10_227 cl10 o_84 rfl rfl ⟨nle, nle, nle, nle⟩ nle rfl ?_
        refine R_if_eq dX10_repairStep_56 rfl (fun h56 => ?_) (fun h56 => ?_)
        · replace hf := iposE hf h56
          refine R_iconst dX10_repairStep_61 (v := 0) rfl ?_
          refine R_istore dX10_repairStep_62 (by decide) rfl rfl ?_
          refine R_iload_n dX10_repairStep_64 rfl rfl ?_
          refine R_istore dX10_repairStep_65 (by decide) rfl rfl ?_
          exact R_subk (rn_X10_repairStep_L67 4096 _ _ _ _ _  hf) ⟨rfl, rfl, rfl, rfl, trivial⟩
        · replace hf := inegE hf h56
          refine R_iconst dX10_repairStep_59 (v := 0) rfl ?_
          cases hf; exact E_iret dX10_repairStep_60 rfl rfl rfl
/-! BracketHallModel.costWithout(I)I -/
def f_X10_costWithout (v1 : Int) (M : Mem) : Option (Int × Mem) :=
  (f_X10_noPlace v1 M).bind fun p2 =>
  if p2.1 = 0 then
    (f_X10_costOf v1 p2.2).bind fun p14 =>
    some (p14.1, p14.2)
  else
    some (0, p2.2)
set_option maxRecDepth 20000 in
theorem ct_X10_costWithout {G : Gl} (v1 : Int) (M : Mem) {res : Int × Mem}  (hf : f_X10_costWithout v1 M = some res) : Ct G miX10_costWithout yX10_costWithout 5 [aR 84, aI v1] M (some (aI res.1)) res.2 := by
  refine Ct.of (L := [some (aR 84), some (aI v1)]) mwX10_costWithout rfl trivial nle ⟨rfl, rfl, trivial⟩ ?_
  unfold f_X10_costWithout at hf
  refine R_aload_n dX10_costWithout_0 rfl rfl ?_
  refine R_iload_n dX10_costWithout_1 rfl rfl ?_
  obtain ⟨p2, hp2, hf⟩ := bdE hf
  refine R_callV (As := [aI v1]) (st := []) dX10_costWithout_2 (ct_X10_noPlace _ _  hp2) mwX10_noPlace mvX10_noPlace mlX10_310 cl10 o_84 rfl rfl ⟨nle, nle, nle, nle⟩ nle rfl ?_
  refine R_if_eq dX10_costWithout_5 rfl (fun h5 => ?_) (fun h5 => ?_)
  · replace hf := iposE hf h5
    refine R_aload_n dX10_costWithout_12 rfl rfl ?_
    refine R_iload_n dX10_costWithout_13 rfl rfl ?_
    obtain ⟨p14, hp14, hf⟩ := bdE hf
    refine R_callV (As := [aI v1]) (st := []) dX10_costWithout_14 (ct_X10_costOf _ _  hp14) mwX10_costOf mvX10_costOf mlX10_343 cl10 o_84 rfl rfl ⟨nle, nle, nle, nle⟩ nle rfl ?_
    cases hf; exact E_iret dX10_costWithout_17 rfl rfl rfl
  · replace hf := inegE hf h5
    refine R_iconst dX10_costWithout_8 (v := 0) rfl ?_
    refine R_goto dX10_costWithout_9 rfl ?_
    cases hf; exact E_iret dX10_costWithout_17 rfl rfl rfl
/-! BracketHallModel.culprit()I -/
def f_X10_culprit_L15 : Nat → Int → Int → Int → Mem → Option (Int × Mem)
  | 0, _, _, _, _ => none
  | n + 1, v1, v2, v3, M =>
    if (M 90 0) ≤ v3 then
      some (v2, M)
    else
      if v1 ≤ 0 then
        some (v2, M)
      else
        (f_X10_costOf v3 M).bind fun p31 =>
        lt1 (p31.1) fun v4_34 =>
        if v1 ≤ v4_34 then
          lt1 (w32 (v3 + 1)) fun v3_47 =>
          f_X10_culprit_L15 n v1 v2 v3_47 p31.2
        else
          lt1 (w32 (v3 + 1)) fun v3_47 =>
          f_X10_culprit_L15 n v4_34 v3 v3_47 p31.2
def f_X10_culprit  (M : Mem) : Option (Int × Mem) :=
  lt1 (up M 84 0 0) fun M2 =>
  (f_X10_costOf (-1) M2).bind fun p7 =>
  lt1 (p7.1) fun v1_10 =>
  f_X10_culprit_L15 4096 v1_10 (-1) 0 p7.2
set_option maxRecDepth 20000 in
theorem rn_X10_culprit_L15 {G : Gl} : ∀ (n : Nat) (v1 : Int) (v2 : Int) (v3 : Int) (M : Mem) (res : Int × Mem),  f_X10_culprit_L15 n v1 v2 v3 M = some res → Run G false (rmD 4 0 0) miX10_culprit (ZP G (some (aI res.1)) res.2) 0 0 15 [some (aR 84), some (aI v1), some (aI v2), some (aI v3), none] [] M := by
  intro n
  induction n with
  | zero => intro v1 v2 v3 M res  hf; cases hf
  | succ n ih =>
    intro v1 v2 v3 M res  hf
    rw [f_X10_culprit_L15] at hf
    refine R_iload_n dX10_culprit_15 rfl rfl ?_
    refine R_aload_n dX10_culprit_16 rfl rfl ?_
    refine R_getR dX10_culprit_17 cl10 flX10_35 o_84 ff10_14 (fr10_14 _) a_90.1 ?_
    refine R_iconst dX10_culprit_20 (v := 0) rfl ?_
    refine R_iaload dX10_culprit_21 a_90 (by decide) (by decide) rfl ?_
    refine R_icmp_ge dX10_culprit_22 rfl (fun h22 => ?_) (fun h22 => ?_)
    · replace hf := iposE hf h22
      refine R_iload_n dX10_culprit_53 rfl rfl ?_
      cases hf; exact E_iret dX10_culprit_54 rfl rfl rfl
    · replace hf := inegE hf h22
      refine R_iload_n dX10_culprit_25 rfl rfl ?_
      refine R_if_le dX10_culprit_26 rfl (fun h26 => ?_) (fun h26 => ?_)
      · replace hf := iposE hf h26
        refine R_iload_n dX10_culprit_53 rfl rfl ?_
        cases hf; exact E_iret dX10_culprit_54 rfl rfl rfl
      · replace hf := inegE hf h26
        refine R_aload_n dX10_culprit_29 rfl rfl ?_
        refine R_iload_n dX10_culprit_30 rfl rfl ?_
        obtain ⟨p31, hp31, hf⟩ := bdE hf
        refine R_callV (As := [aI v3]) (st := []) dX10_culprit_31 (ct_X10_costOf _ _  hp31) mwX10_costOf mvX10_costOf mlX10_343 cl10 o_84 rfl rfl ⟨nle, nle, nle, nle⟩ nle rfl ?_
        obtain ⟨v4_34, hv4_34, hf⟩ := ltE hf
        refine R_istore dX10_culprit_34 (by decide) hv4_34 rfl ?_
        refine R_iload dX10_culprit_36 rfl ?_
        refine R_iload_n dX10_culprit_38 rfl rfl ?_
        refine R_icmp_ge dX10_culprit_39 rfl (fun h39 => ?_) (fun h39 => ?_)
        · replace hf := iposE hf h39
          obtain ⟨v3_47, hv3_47, hf⟩ := ltE hf
          refine R_iinc dX10_culprit_47 rfl rfl hv3_47 (by decide) rfl ?_
          refine R_goto dX10_culprit_50 rfl ?_
          exact R_subk (ih _ _ _ _ _  hf) ⟨rfl, rfl, rfl, rfl, trivial⟩
        · replace hf := inegE hf h39
          refine R_iload dX10_culprit_42 rfl ?_
          refine R_istore_n dX10_culprit_44 rfl (by decide) rfl rfl ?_
          refine R_iload_n dX10_culprit_45 rfl rfl ?_
          refine R_istore_n dX10_culprit_46 rfl (by decide) rfl rfl ?_
          obtain ⟨v3_47, hv3_47, hf⟩ := ltE hf
          refine R_iinc dX10_culprit_47 rfl rfl hv3_47 (by decide) rfl ?_
          refine R_goto dX10_culprit_50 rfl ?_
          exact R_subk (ih _ _ _ _ _  hf) ⟨rfl, rfl, rfl, rfl, trivial⟩
set_option maxRecDepth 20000 in
theorem ct_X10_culprit {G : Gl}  (M : Mem) {res : Int × Mem}  (hf : f_X10_culprit  M = some res) : Ct G miX10_culprit yX10_culprit 4 [aR 84] M (some (aI res.1)) res.2 := by
  refine Ct.of (L := [some (aR 84), none, none, none, none]) mwX10_culprit rfl trivial nle ⟨rfl, trivial⟩ ?_
  unfold f_X10_culprit at hf
  refine R_aload_n dX10_culprit_0 rfl rfl ?_
  refine R_iconst dX10_culprit_1 (v := 0) rfl ?_
  obtain ⟨M2, hM2, hf⟩ := ltE hf
  refine R_put (ki := 0) dX10_culprit_2 cl10 flX10_117 o_84 (Or.inl fz10_0) rfl hM2 ?_
  refine R_aload_n dX10_culprit_5 rfl rfl ?_
  refine R_iconst dX10_culprit_6 (v := (-1)) rfl ?_
  obtain ⟨p7, hp7, hf⟩ := bdE hf
  refine R_callV (As := [aI (-1)]) (st := []) dX10_culprit_7 (ct_X10_costOf _ _  hp7) mwX10_costOf mvX10_costOf mlX10_343 cl10 o_84 rfl rfl ⟨nle, nle, nle, nle⟩ nle rfl ?_
  obtain ⟨v1_10, hv1_10, hf⟩ := ltE hf
  refine R_istore_n dX10_culprit_10 rfl (by decide) hv1_10 rfl ?_
  refine R_iconst dX10_culprit_11 (v := (-1)) rfl ?_
  refine R_istore_n dX10_culprit_12 rfl (by decide) rfl rfl ?_
  refine R_iconst dX10_culprit_13 (v := 0) rfl ?_
  refine R_istore_n dX10_culprit_14 rfl (by decide) rfl rfl ?_
  exact R_subk (rn_X10_culprit_L15 4096 _ _ _ _ _  hf) ⟨rfl, rfl, rfl, rfl, trivial⟩
/-! BracketHallModel.markAt(I)I -/
def f_X10_markAt (v1 : Int) (M : Mem) : Option (Int × Mem) :=
  lt1 (up M 84 0 0) fun M2 =>
  (f_X10_isIn v1 0 (w32 ((M2 90 1) - 1)) M2).bind fun p16 =>
  if p16 = 0 then
    (f_X10_throwsIf 1 1 M2).bind fun p28 =>
    if p28.1 = 0 then
      if (0 : Int) ≤ w32 (2 + v1) ∧ w32 (2 + v1) < 254 then
      some (p28.2 90 (w32 (2 + v1)), p28.2)
      else none
    else
      some (0, p28.2)
  else
    (f_X10_throwsIf 0 1 M2).bind fun p28 =>
    if p28.1 = 0 then
      if (0 : Int) ≤ w32 (2 + v1) ∧ w32 (2 + v1) < 254 then
      some (p28.2 90 (w32 (2 + v1)), p28.2)
      else none
    else
      some (0, p28.2)
set_option maxRecDepth 20000 in
theorem ct_X10_markAt {G : Gl} (v1 : Int) (M : Mem) {res : Int × Mem}  (hf : f_X10_markAt v1 M = some res) : Ct G miX10_markAt yX10_markAt 1 [aR 84, aI v1] M (some (aI res.1)) res.2 := by
  refine Ct.of (L := [some (aR 84), some (aI v1)]) mwX10_markAt rfl trivial nle ⟨rfl, rfl, trivial⟩ ?_
  unfold f_X10_markAt at hf
  refine R_aload_n dX10_markAt_0 rfl rfl ?_
  refine R_iconst dX10_markAt_1 (v := 0) rfl ?_
  obtain ⟨M2, hM2, hf⟩ := ltE hf
  refine R_put (ki := 0) dX10_markAt_2 cl10 flX10_117 o_84 (Or.inl fz10_0) rfl hM2 ?_
  refine R_aload_n dX10_markAt_5 rfl rfl ?_
  refine R_iload_n dX10_markAt_6 rfl rfl ?_
  refine R_iconst dX10_markAt_7 (v := 0) rfl ?_
  refine R_aload_n dX10_markAt_8 rfl rfl ?_
  refine R_getR dX10_markAt_9 cl10 flX10_35 o_84 ff10_14 (fr10_14 _) a_90.1 ?_
  refine R_iconst dX10_markAt_12 (v := 1) rfl ?_
  refine R_iaload dX10_markAt_13 a_90 (by decide) (by decide) rfl ?_
  refine R_iconst dX10_markAt_14 (v := 1) rfl ?_
  refine R_isub dX10_markAt_15 rfl ?_
  obtain ⟨p16, hp16, hf⟩ := bdE hf
  refine R_callS (As := [aI v1, aI 0, aI (w32 ((M2 90 1) - 1))]) (st := [aR 84]) dX10_markAt_16 (ct_X10_isIn _ _ _ _  hp16) mwX10_isIn msX10_isIn mlX10_130 rfl ⟨nle, nle, nle, nle⟩ nle rfl ?_
  refine R_if_ne dX10_markAt_19 rfl (fun h19 => ?_) (fun h19 => ?_)
  · replace hf := inegE hf h19
    refine R_iconst dX10_markAt_26 (v := 0) rfl ?_
    refine R_iconst dX10_markAt_27 (v := 1) rfl ?_
    obtain ⟨p28, hp28, hf⟩ := bdE hf
    refine R_callV (As := [aI 0, aI 1]) (st := []) dX10_markAt_28 (ct_X10_throwsIf _ _ _  hp28) mwX10_throwsIf mvX10_throwsIf mlX10_227 cl10 o_84 rfl rfl ⟨nle, nle, nle, nle⟩ nle rfl ?_
    refine R_if_eq dX10_markAt_31 rfl (fun h31 => ?_) (fun h31 => ?_)
    · replace hf := iposE hf h31
      refine R_aload_n dX10_markAt_38 rfl rfl ?_
      refine R_getR dX10_markAt_39 cl10 flX10_35 o_84 ff10_14 (fr10_14 _) a_90.1 ?_
      refine R_iconst dX10_markAt_42 (v := 2) rfl ?_
      refine R_iload_n dX10_markAt_43 rfl rfl ?_
      refine R_iadd dX10_markAt_44 rfl ?_
      obtain ⟨hg1, hf⟩ := gdE hf
      refine R_iaload dX10_markAt_45 a_90 hg1.1 hg1.2 rfl ?_
      cases hf; exact E_iret dX10_markAt_46 rfl rfl rfl
    · replace hf := inegE hf h31
      refine R_iconst dX10_markAt_34 (v := 0) rfl ?_
      refine R_goto dX10_markAt_35 rfl ?_
      cases hf; exact E_iret dX10_markAt_46 rfl rfl rfl
  · replace hf := iposE hf h19
    refine R_iconst dX10_markAt_22 (v := 1) rfl ?_
    refine R_goto dX10_markAt_23 rfl ?_
    refine R_iconst dX10_markAt_27 (v := 1) rfl ?_
    obtain ⟨p28, hp28, hf⟩ := bdE hf
    refine R_callV (As := [aI 1, aI 1]) (st := []) dX10_markAt_28 (ct_X10_throwsIf _ _ _  hp28) mwX10_throwsIf mvX10_throwsIf mlX10_227 cl10 o_84 rfl rfl ⟨nle, nle, nle, nle⟩ nle rfl ?_
    refine R_if_eq dX10_markAt_31 rfl (fun h31 => ?_) (fun h31 => ?_)
    · replace hf := iposE hf h31
      refine R_aload_n dX10_markAt_38 rfl rfl ?_
      refine R_getR dX10_markAt_39 cl10 flX10_35 o_84 ff10_14 (fr10_14 _) a_90.1 ?_
      refine R_iconst dX10_markAt_42 (v := 2) rfl ?_
      refine R_iload_n dX10_markAt_43 rfl rfl ?_
      refine R_iadd dX10_markAt_44 rfl ?_
      obtain ⟨hg2, hf⟩ := gdE hf
      refine R_iaload dX10_markAt_45 a_90 hg2.1 hg2.2 rfl ?_
      cases hf; exact E_iret dX10_markAt_46 rfl rfl rfl
    · replace hf := inegE hf h31
      refine R_iconst dX10_markAt_34 (v := 0) rfl ?_
      refine R_goto dX10_markAt_35 rfl ?_
      cases hf; exact E_iret dX10_markAt_46 rfl rfl rfl
/-! BracketHallModel.told(I)I -/
def f_X10_told (v1 : Int) (M : Mem) : Option (Int) :=
  if (0 : Int) ≤ w32 (14 + v1) ∧ w32 (14 + v1) < 254 then
  if (M 90 (w32 (14 + v1))) = 10 then
    some 10
  else
    (f_X10_bracketAt v1 M).bind fun p19 =>
    if (0 : Int) ≤ v1 ∧ v1 < 240 then
    if (M 92 v1) ≤ 0 then
      if p19 = (-1) then
        some 46
      else
        if (0 : Int) ≤ p19 ∧ p19 < 240 then
        if (M 96 p19) = (-1) then
          some 33
        else
          (f_X10_depthAt v1 M).bind fun p66 =>
          if M 90 10 = 0 then none else
          some (w32 (48 + (irm p66 (M 90 10))))
        else none
    else
      some 35
    else none
  else none
set_option maxRecDepth 20000 in
theorem ct_X10_told {G : Gl} (v1 : Int) (M : Mem) {res : Int}  (hf : f_X10_told v1 M = some res) : Ct G miX10_told yX10_told 3 [aR 84, aI v1] M (some (aI res)) M := by
  refine Ct.of (L := [some (aR 84), some (aI v1), none]) mwX10_told rfl trivial nle ⟨rfl, rfl, trivial⟩ ?_
  unfold f_X10_told at hf
  refine R_aload_n dX10_told_0 rfl rfl ?_
  refine R_getR dX10_told_1 cl10 flX10_35 o_84 ff10_14 (fr10_14 _) a_90.1 ?_
  refine R_bipush dX10_told_4 (v := 14) rfl ?_
  refine R_iload_n dX10_told_6 rfl rfl ?_
  refine R_iadd dX10_told_7 rfl ?_
  obtain ⟨hg1, hf⟩ := gdE hf
  refine R_iaload dX10_told_8 a_90 hg1.1 hg1.2 rfl ?_
  refine R_bipush dX10_told_9 (v := 10) rfl ?_
  refine R_icmp_ne dX10_told_11 rfl (fun h11 => ?_) (fun h11 => ?_)
  · replace hf := inegE hf h11
    refine R_aload_n dX10_told_17 rfl rfl ?_
    refine R_iload_n dX10_told_18 rfl rfl ?_
    obtain ⟨p19, hp19, hf⟩ := bdE hf
    refine R_callV (As := [aI v1]) (st := []) dX10_told_19 (ct_X10_bracketAt _ _  hp19) mwX10_bracketAt mvX10_bracketAt mlX10_313 cl10 o_84 rfl rfl ⟨nle, nle, nle, nle⟩ nle rfl ?_
    refine R_istore_n dX10_told_22 rfl (by decide) rfl rfl ?_
    refine R_aload_n dX10_told_23 rfl rfl ?_
    refine R_getR dX10_told_24 cl10 flX10_45 o_84 ff10_25 (fr10_25 _) a_92.1 ?_
    refine R_iload_n dX10_told_27 rfl rfl ?_
    obtain ⟨hg2, hf⟩ := gdE hf
    refine R_iaload dX10_told_28 a_92 hg2.1 hg2.2 rfl ?_
    refine R_if_le dX10_told_29 rfl (fun h29 => ?_) (fun h29 => ?_)
    · replace hf := iposE hf h29
      refine R_iload_n dX10_told_37 rfl rfl ?_
      refine R_iconst dX10_told_38 (v := (-1)) rfl ?_
      refine R_icmp_ne dX10_told_39 rfl (fun h39 => ?_) (fun h39 => ?_)
      · replace hf := inegE hf h39
        refine R_aload_n dX10_told_47 rfl rfl ?_
        refine R_getR dX10_told_48 cl10 flX10_58 o_84 ff10_30 (fr10_30 _) a_96.1 ?_
        refine R_iload_n dX10_told_51 rfl rfl ?_
        obtain ⟨hg3, hf⟩ := gdE hf
        refine R_iaload dX10_told_52 a_96 hg3.1 hg3.2 rfl ?_
        refine R_iconst dX10_told_53 (v := (-1)) rfl ?_
        refine R_icmp_ne dX10_told_54 rfl (fun h54 => ?_) (fun h54 => ?_)
        · replace hf := inegE hf h54
          refine R_bipush dX10_told_62 (v := 48) rfl ?_
          refine R_aload_n dX10_told_64 rfl rfl ?_
          refine R_iload_n dX10_told_65 rfl rfl ?_
          obtain ⟨p66, hp66, hf⟩ := bdE hf
          refine R_callV (As := [aI v1]) (st := [aI 48]) dX10_told_66 (ct_X10_depthAt _ _  hp66) mwX10_depthAt mvX10_depthAt mlX10_284 cl10 o_84 rfl rfl ⟨nle, nle, nle, nle⟩ nle rfl ?_
          refine R_aload_n dX10_told_69 rfl rfl ?_
          refine R_getR dX10_told_70 cl10 flX10_35 o_84 ff10_14 (fr10_14 _) a_90.1 ?_
          refine R_bipush dX10_told_73 (v := 10) rfl ?_
          refine R_iaload dX10_told_75 a_90 (by decide) (by decide) rfl ?_
          obtain ⟨hz, hf⟩ := gnE hf
          refine R_irem dX10_told_76 hz rfl ?_
          refine R_iadd dX10_told_77 rfl ?_
          cases hf; exact E_iret dX10_told_78 rfl rfl rfl
        · replace hf := iposE hf h54
          refine R_bipush dX10_told_57 (v := 33) rfl ?_
          refine R_goto dX10_told_59 rfl ?_
          cases hf; exact E_iret dX10_told_78 rfl rfl rfl
      · replace hf := iposE hf h39
        refine R_bipush dX10_told_42 (v := 46) rfl ?_
        refine R_goto dX10_told_44 rfl ?_
        cases hf; exact E_iret dX10_told_78 rfl rfl rfl
    · replace hf := inegE hf h29
      refine R_bipush dX10_told_32 (v := 35) rfl ?_
      refine R_goto dX10_told_34 rfl ?_
      cases hf; exact E_iret dX10_told_78 rfl rfl rfl
  · replace hf := iposE hf h11
    refine R_bipush dX10_told_14 (v := 10) rfl ?_
    cases hf; exact E_iret dX10_told_16 rfl rfl rfl
/-! BracketHallModel.report()I -/
def f_X10_report_L21 : Nat → Int → Mem → Option (Int × Mem)
  | 0, _, _ => none
  | n + 1, v1, M =>
    if (M 84 39) ≤ v1 then
      some (M 84 39, M)
    else
      (f_X10_told v1 M).bind fun p36 =>
      if (0 : Int) ≤ v1 ∧ v1 < 240 then
      lt1 (up M 104 v1 p36) fun M39 =>
      lt1 (w32 (v1 + 1)) fun v1_40 =>
      f_X10_report_L21 n v1_40 M39
      else none
def f_X10_report  (M : Mem) : Option (Int × Mem) :=
  lt1 (up M 84 0 0) fun M2 =>
  (f_X10_findsPairs M2).bind fun p6 =>
  lt1 (up p6 84 39 (p6 90 0)) fun M16 =>
  f_X10_report_L21 4096 0 M16
set_option maxRecDepth 20000 in
theorem rn_X10_report_L21 {G : Gl} : ∀ (n : Nat) (v1 : Int) (M : Mem) (res : Int × Mem),  f_X10_report_L21 n v1 M = some res → Run G false (rmD 4 0 0) miX10_report (ZP G (some (aI res.1)) res.2) 0 0 21 [some (aR 84), some (aI v1)] [] M := by
  intro n
  induction n with
  | zero => intro v1 M res  hf; cases hf
  | succ n ih =>
    intro v1 M res  hf
    rw [f_X10_report_L21] at hf
    refine R_iload_n dX10_report_21 rfl rfl ?_
    refine R_aload_n dX10_report_22 rfl rfl ?_
    refine R_getI (ki := 39) dX10_report_23 cl10 flX10_352 o_84 ff10_39 rfl rfl ?_
    refine R_icmp_ge dX10_report_26 rfl (fun h26 => ?_) (fun h26 => ?_)
    · replace hf := iposE hf h26
      refine R_aload_n dX10_report_46 rfl rfl ?_
      refine R_getI (ki := 39) dX10_report_47 cl10 flX10_352 o_84 ff10_39 rfl rfl ?_
      cases hf; exact E_iret dX10_report_50 rfl rfl rfl
    · replace hf := inegE hf h26
      refine R_aload_n dX10_report_29 rfl rfl ?_
      refine R_getR dX10_report_30 cl10 flX10_83 o_84 ff10_38 (fr10_38 _) a_104.1 ?_
      refine R_iload_n dX10_report_33 rfl rfl ?_
      refine R_aload_n dX10_report_34 rfl rfl ?_
      refine R_iload_n dX10_report_35 rfl rfl ?_
      obtain ⟨p36, hp36, hf⟩ := bdE hf
      refine R_callV (As := [aI v1]) (st := [aI v1, aR 104]) dX10_report_36 (ct_X10_told _ _  hp36) mwX10_told mvX10_told mlX10_355 cl10 o_84 rfl rfl ⟨nle, nle, nle, nle⟩ nle rfl ?_
      obtain ⟨hg1, hf⟩ := gdE hf
      obtain ⟨M39, hM39, hf⟩ := ltE hf
      refine R_iastore dX10_report_39 a_104 hg1.1 hg1.2 hM39 ?_
      obtain ⟨v1_40, hv1_40, hf⟩ := ltE hf
      refine R_iinc dX10_report_40 rfl rfl hv1_40 (by decide) rfl ?_
      refine R_goto dX10_report_43 rfl ?_
      exact R_subk (ih _ _ _  hf) ⟨rfl, rfl, trivial⟩
set_option maxRecDepth 20000 in
theorem ct_X10_report {G : Gl}  (M : Mem) {res : Int × Mem}  (hf : f_X10_report  M = some res) : Ct G miX10_report yX10_report 4 [aR 84] M (some (aI res.1)) res.2 := by
  refine Ct.of (L := [some (aR 84), none]) mwX10_report rfl trivial nle ⟨rfl, trivial⟩ ?_
  unfold f_X10_report at hf
  refine R_aload_n dX10_report_0 rfl rfl ?_
  refine R_iconst dX10_report_1 (v := 0) rfl ?_
  obtain ⟨M2, hM2, hf⟩ := ltE hf
  refine R_put (ki := 0) dX10_report_2 cl10 flX10_117 o_84 (Or.inl fz10_0) rfl hM2 ?_
  refine R_aload_n dX10_report_5 rfl rfl ?_
  obtain ⟨p6, hp6, hf⟩ := bdE hf
  refine R_callV (As := []) (st := []) dX10_report_6 (ct_X10_findsPairs  _  hp6) mwX10_findsPairs mvX10_findsPairs mlX10_292 cl10 o_84 rfl rfl ⟨nle, nle, nle, nle⟩ nle rfl ?_
  refine R_aload_n dX10_report_9 rfl rfl ?_
  refine R_aload_n dX10_report_10 rfl rfl ?_
  refine R_getR dX10_report_11 cl10 flX10_35 o_84 ff10_14 (fr10_14 _) a_90.1 ?_
  refine R_iconst dX10_report_14 (v := 0) rfl ?_
  refine R_iaload dX10_report_15 a_90 (by decide) (by decide) rfl ?_
  obtain ⟨M16, hM16, hf⟩ := ltE hf
  refine R_put (ki := 39) dX10_report_16 cl10 flX10_352 o_84 (Or.inl fz10_39) rfl hM16 ?_
  refine R_iconst dX10_report_19 (v := 0) rfl ?_
  refine R_istore_n dX10_report_20 rfl (by decide) rfl rfl ?_
  exact R_subk (rn_X10_report_L21 4096 _ _ _  hf) ⟨rfl, rfl, trivial⟩
/-! BracketHallModel.reportByte(I)I -/
def f_X10_reportByte (v1 : Int) (M : Mem) : Option (Int × Mem) :=
  lt1 (up M 84 0 0) fun M2 =>
  (f_X10_isIn v1 0 (w32 ((M2 84 39) - 1)) M2).bind fun p13 =>
  if p13 = 0 then
    some ((-1), M2)
  else
    if (0 : Int) ≤ v1 ∧ v1 < 240 then
    some (M2 104 v1, M2)
    else none
set_option maxRecDepth 20000 in
theorem ct_X10_reportByte {G : Gl} (v1 : Int) (M : Mem) {res : Int × Mem}  (hf : f_X10_reportByte v1 M = some res) : Ct G miX10_reportByte yX10_reportByte 1 [aR 84, aI v1] M (some (aI res.1)) res.2 := by
  refine Ct.of (L := [some (aR 84), some (aI v1)]) mwX10_reportByte rfl trivial nle ⟨rfl, rfl, trivial⟩ ?_
  unfold f_X10_reportByte at hf
  refine R_aload_n dX10_reportByte_0 rfl rfl ?_
  refine R_iconst dX10_reportByte_1 (v := 0) rfl ?_
  obtain ⟨M2, hM2, hf⟩ := ltE hf
  refine R_put (ki := 0) dX10_reportByte_2 cl10 flX10_117 o_84 (Or.inl fz10_0) rfl hM2 ?_
  refine R_iload_n dX10_reportByte_5 rfl rfl ?_
  refine R_iconst dX10_reportByte_6 (v := 0) rfl ?_
  refine R_aload_n dX10_reportByte_7 rfl rfl ?_
  refine R_getI (ki := 39) dX10_reportByte_8 cl10 flX10_352 o_84 ff10_39 rfl rfl ?_
  refine R_iconst dX10_reportByte_11 (v := 1) rfl ?_
  refine R_isub dX10_reportByte_12 rfl ?_
  obtain ⟨p13, hp13, hf⟩ := bdE hf
  refine R_callS (As := [aI v1, aI 0, aI (w32 ((M2 84 39) - 1))]) (st := []) dX10_reportByte_13 (ct_X10_isIn _ _ _ _  hp13) mwX10_isIn msX10_isIn mlX10_130 rfl ⟨nle, nle, nle, nle⟩ nle rfl ?_
  refine R_if_eq dX10_reportByte_16 rfl (fun h16 => ?_) (fun h16 => ?_)
  · replace hf := iposE hf h16
    refine R_iconst dX10_reportByte_28 (v := (-1)) rfl ?_
    cases hf; exact E_iret dX10_reportByte_29 rfl rfl rfl
  · replace hf := inegE hf h16
    refine R_aload_n dX10_reportByte_19 rfl rfl ?_
    refine R_getR dX10_reportByte_20 cl10 flX10_83 o_84 ff10_38 (fr10_38 _) a_104.1 ?_
    refine R_iload_n dX10_reportByte_23 rfl rfl ?_
    obtain ⟨hg1, hf⟩ := gdE hf
    refine R_iaload dX10_reportByte_24 a_104 hg1.1 hg1.2 rfl ?_
    refine R_goto dX10_reportByte_25 rfl ?_
    cases hf; exact E_iret dX10_reportByte_29 rfl rfl rfl
/-! BracketHallModel.puts(II)V -/
def f_X10_puts_L60 : Nat → Int → Int → Mem → Option (Mem)
  | 0, _, _, _ => none
  | n + 1, v1, v3, M =>
    if (M 90 1) ≤ v3 then
      some M
    else
      if (0 : Int) ≤ w32 (2 + v3) ∧ w32 (2 + v3) < 254 then
      if (M 90 (w32 (2 + v3))) < v1 then
        lt1 (up M 90 (w32 (2 + v3)) (w32 ((M 90 (w32 (2 + v3))) + 0))) fun M97 =>
        lt1 (w32 (v3 + 1)) fun v3_98 =>
        f_X10_puts_L60 n v1 v3_98 M97
      else
        lt1 (up M 90 (w32 (2 + v3)) (w32 ((M 90 (w32 (2 + v3))) + 1))) fun M97 =>
        lt1 (w32 (v3 + 1)) fun v3_98 =>
        f_X10_puts_L60 n v1 v3_98 M97
      else none
def f_X10_puts_K38 (v1 : Int) (v2 : Int) (M : Mem) : Option (Mem) :=
  if (0 : Int) ≤ w32 (14 + v1) ∧ w32 (14 + v1) < 254 then
  lt1 (up M 90 (w32 (14 + v1)) v2) fun M47 =>
  lt1 (up M47 90 0 (w32 ((M47 90 0) + 1))) fun M57 =>
  f_X10_puts_L60 4096 v1 0 M57
  else none
def f_X10_puts_L7 : Nat → Int → Int → Int → Mem → Option (Mem)
  | 0, _, _, _, _ => none
  | n + 1, v1, v2, v3, M =>
    if v3 ≤ v1 then
      f_X10_puts_K38 v1 v2 M
    else
      if (0 : Int) ≤ w32 ((w32 (14 + v3)) - 1) ∧ w32 ((w32 (14 + v3)) - 1) < 254 then
      if (0 : Int) ≤ w32 (14 + v3) ∧ w32 (14 + v3) < 254 then
      lt1 (up M 90 (w32 (14 + v3)) (M 90 (w32 ((w32 (14 + v3)) - 1)))) fun M31 =>
      lt1 (w32 (v3 + (-1))) fun v3_32 =>
      f_X10_puts_L7 n v1 v2 v3_32 M31
      else none
      else none
def f_X10_puts (v1 : Int) (v2 : Int) (M : Mem) : Option (Mem) :=
  lt1 (M 90 0) fun v3_6 =>
  f_X10_puts_L7 4096 v1 v2 v3_6 M
set_option maxRecDepth 20000 in
theorem rn_X10_puts_L60 {G : Gl} : ∀ (n : Nat) (v1 : Int) (v3 : Int) (M : Mem) (res : Mem),  f_X10_puts_L60 n v1 v3 M = some res → Run G false (rmD 0 0 0) miX10_puts (ZP G none res) 0 0 60 [some (aR 84), some (aI v1), none, some (aI v3)] [] M := by
  intro n
  induction n with
  | zero => intro v1 v3 M res  hf; cases hf
  | succ n ih =>
    intro v1 v3 M res  hf
    rw [f_X10_puts_L60] at hf
    refine R_iload_n dX10_puts_60 rfl rfl ?_
    refine R_aload_n dX10_puts_61 rfl rfl ?_
    refine R_getR dX10_puts_62 cl10 flX10_35 o_84 ff10_14 (fr10_14 _) a_90.1 ?_
    refine R_iconst dX10_puts_65 (v := 1) rfl ?_
    refine R_iaload dX10_puts_66 a_90 (by decide) (by decide) rfl ?_
    refine R_icmp_ge dX10_puts_67 rfl (fun h67 => ?_) (fun h67 => ?_)
    · replace hf := iposE hf h67
      cases hf; exact E_vret dX10_puts_104 rfl rfl rfl
    · replace hf := inegE hf h67
      refine R_aload_n dX10_puts_70 rfl rfl ?_
      refine R_getR dX10_puts_71 cl10 flX10_35 o_84 ff10_14 (fr10_14 _) a_90.1 ?_
      refine R_iconst dX10_puts_74 (v := 2) rfl ?_
      refine R_iload_n dX10_puts_75 rfl rfl ?_
      refine R_iadd dX10_puts_76 rfl ?_
      refine R_dup2 dX10_puts_77 ?_
      obtain ⟨hg1, hf⟩ := gdE hf
      refine R_iaload dX10_puts_78 a_90 hg1.1 hg1.2 rfl ?_
      refine R_aload_n dX10_puts_79 rfl rfl ?_
      refine R_getR dX10_puts_80 cl10 flX10_35 o_84 ff10_14 (fr10_14 _) a_90.1 ?_
      refine R_iconst dX10_puts_83 (v := 2) rfl ?_
      refine R_iload_n dX10_puts_84 rfl rfl ?_
      refine R_iadd dX10_puts_85 rfl ?_
      refine R_iaload dX10_puts_86 a_90 hg1.1 hg1.2 rfl ?_
      refine R_iload_n dX10_puts_87 rfl rfl ?_
      refine R_icmp_lt dX10_puts_88 rfl (fun h88 => ?_) (fun h88 => ?_)
      · replace hf := iposE hf h88
        refine R_iconst dX10_puts_95 (v := 0) rfl ?_
        refine R_iadd dX10_puts_96 rfl ?_
        obtain ⟨M97, hM97, hf⟩ := ltE hf
        refine R_iastore dX10_puts_97 a_90 hg1.1 hg1.2 hM97 ?_
        obtain ⟨v3_98, hv3_98, hf⟩ := ltE hf
        refine R_iinc dX10_puts_98 rfl rfl hv3_98 (by decide) rfl ?_
        refine R_goto dX10_puts_101 rfl ?_
        exact R_subk (ih _ _ _ _  hf) ⟨rfl, rfl, rfl, trivial⟩
      · replace hf := inegE hf h88
        refine R_iconst dX10_puts_91 (v := 1) rfl ?_
        refine R_goto dX10_puts_92 rfl ?_
        refine R_iadd dX10_puts_96 rfl ?_
        obtain ⟨M97, hM97, hf⟩ := ltE hf
        refine R_iastore dX10_puts_97 a_90 hg1.1 hg1.2 hM97 ?_
        obtain ⟨v3_98, hv3_98, hf⟩ := ltE hf
        refine R_iinc dX10_puts_98 rfl rfl hv3_98 (by decide) rfl ?_
        refine R_goto dX10_puts_101 rfl ?_
        exact R_subk (ih _ _ _ _  hf) ⟨rfl, rfl, rfl, trivial⟩
set_option maxRecDepth 20000 in
theorem rn_X10_puts_K38 {G : Gl} (v1 : Int) (v2 : Int) (M : Mem) (res : Mem)  (hf : f_X10_puts_K38 v1 v2 M = some res) : Run G false (rmD 0 0 0) miX10_puts (ZP G none res) 0 0 38 [some (aR 84), some (aI v1), some (aI v2), none] [] M := by
  unfold f_X10_puts_K38 at hf
  refine R_aload_n dX10_puts_38 rfl rfl ?_
  refine R_getR dX10_puts_39 cl10 flX10_35 o_84 ff10_14 (fr10_14 _) a_90.1 ?_
  refine R_bipush dX10_puts_42 (v := 14) rfl ?_
  refine R_iload_n dX10_puts_44 rfl rfl ?_
  refine R_iadd dX10_puts_45 rfl ?_
  refine R_iload_n dX10_puts_46 rfl rfl ?_
  obtain ⟨hg2, hf⟩ := gdE hf
  obtain ⟨M47, hM47, hf⟩ := ltE hf
  refine R_iastore dX10_puts_47 a_90 hg2.1 hg2.2 hM47 ?_
  refine R_aload_n dX10_puts_48 rfl rfl ?_
  refine R_getR dX10_puts_49 cl10 flX10_35 o_84 ff10_14 (fr10_14 _) a_90.1 ?_
  refine R_iconst dX10_puts_52 (v := 0) rfl ?_
  refine R_dup2 dX10_puts_53 ?_
  refine R_iaload dX10_puts_54 a_90 (by decide) (by decide) rfl ?_
  refine R_iconst dX10_puts_55 (v := 1) rfl ?_
  refine R_iadd dX10_puts_56 rfl ?_
  obtain ⟨M57, hM57, hf⟩ := ltE hf
  refine R_iastore dX10_puts_57 a_90 (by decide) (by decide) hM57 ?_
  refine R_iconst dX10_puts_58 (v := 0) rfl ?_
  refine R_istore_n dX10_puts_59 rfl (by decide) rfl rfl ?_
  exact R_subk (rn_X10_puts_L60 4096 _ _ _ _  hf) ⟨rfl, rfl, rfl, trivial⟩
set_option maxRecDepth 20000 in
theorem rn_X10_puts_L7 {G : Gl} : ∀ (n : Nat) (v1 : Int) (v2 : Int) (v3 : Int) (M : Mem) (res : Mem),  f_X10_puts_L7 n v1 v2 v3 M = some res → Run G false (rmD 0 0 0) miX10_puts (ZP G none res) 0 0 7 [some (aR 84), some (aI v1), some (aI v2), some (aI v3)] [] M := by
  intro n
  induction n with
  | zero => intro v1 v2 v3 M res  hf; cases hf
  | succ n ih =>
    intro v1 v2 v3 M res  hf
    rw [f_X10_puts_L7] at hf
    refine R_iload_n dX10_puts_7 rfl rfl ?_
    refine R_iload_n dX10_puts_8 rfl rfl ?_
    refine R_icmp_le dX10_puts_9 rfl (fun h9 => ?_) (fun h9 => ?_)
    · replace hf := iposE hf h9
      exact R_subk (rn_X10_puts_K38 _ _ _ _  hf) ⟨rfl, rfl, rfl, trivial⟩
    · replace hf := inegE hf h9
      refine R_aload_n dX10_puts_12 rfl rfl ?_
      refine R_getR dX10_puts_13 cl10 flX10_35 o_84 ff10_14 (fr10_14 _) a_90.1 ?_
      refine R_bipush dX10_puts_16 (v := 14) rfl ?_
      refine R_iload_n dX10_puts_18 rfl rfl ?_
      refine R_iadd dX10_puts_19 rfl ?_
      refine R_aload_n dX10_puts_20 rfl rfl ?_
      refine R_getR dX10_puts_21 cl10 flX10_35 o_84 ff10_14 (fr10_14 _) a_90.1 ?_
      refine R_bipush dX10_puts_24 (v := 14) rfl ?_
      refine R_iload_n dX10_puts_26 rfl rfl ?_
      refine R_iadd dX10_puts_27 rfl ?_
      refine R_iconst dX10_puts_28 (v := 1) rfl ?_
      refine R_isub dX10_puts_29 rfl ?_
      obtain ⟨hg3, hf⟩ := gdE hf
      refine R_iaload dX10_puts_30 a_90 hg3.1 hg3.2 rfl ?_
      obtain ⟨hg4, hf⟩ := gdE hf
      obtain ⟨M31, hM31, hf⟩ := ltE hf
      refine R_iastore dX10_puts_31 a_90 hg4.1 hg4.2 hM31 ?_
      obtain ⟨v3_32, hv3_32, hf⟩ := ltE hf
      refine R_iinc dX10_puts_32 rfl rfl hv3_32 (by decide) rfl ?_
      refine R_goto dX10_puts_35 rfl ?_
      exact R_subk (ih _ _ _ _ _  hf) ⟨rfl, rfl, rfl, rfl, trivial⟩
set_option maxRecDepth 20000 in
theorem ct_X10_puts {G : Gl} (v1 : Int) (v2 : Int) (M : Mem) {res : Mem}  (hf : f_X10_puts v1 v2 M = some res) : Ct G miX10_puts yX10_puts 0 [aR 84, aI v1, aI v2] M none res := by
  refine Ct.of (L := [some (aR 84), some (aI v1), some (aI v2), none]) mwX10_puts rfl trivial nle ⟨rfl, rfl, rfl, trivial⟩ ?_
  unfold f_X10_puts at hf
  refine R_aload_n dX10_puts_0 rfl rfl ?_
  refine R_getR dX10_puts_1 cl10 flX10_35 o_84 ff10_14 (fr10_14 _) a_90.1 ?_
  refine R_iconst dX10_puts_4 (v := 0) rfl ?_
  refine R_iaload dX10_puts_5 a_90 (by decide) (by decide) rfl ?_
  obtain ⟨v3_6, hv3_6, hf⟩ := ltE hf
  refine R_istore_n dX10_puts_6 rfl (by decide) hv3_6 rfl ?_
  exact R_subk (rn_X10_puts_L7 4096 _ _ _ _ _  hf) ⟨rfl, rfl, rfl, rfl, trivial⟩
/-! BracketHallModel.takesOut(II)V -/
def f_X10_takesOut_L54 : Nat → Int → Int → Int → Mem → Option (Mem)
  | 0, _, _, _, _ => none
  | n + 1, v1, v2, v3, M =>
    if (M 90 1) ≤ v3 then
      some M
    else
      if (0 : Int) ≤ w32 (2 + v3) ∧ w32 (2 + v3) < 254 then
      lt1 (M 90 (w32 (2 + v3))) fun v4_72 =>
      if v4_72 ≤ v2 then
        if v4_72 < v1 then
          lt1 (up M 90 (w32 (2 + v3)) v4_72) fun M108 =>
          lt1 (w32 (v3 + 1)) fun v3_109 =>
          f_X10_takesOut_L54 n v1 v2 v3_109 M108
        else
          lt1 (up M 90 (w32 (2 + v3)) v1) fun M108 =>
          lt1 (w32 (v3 + 1)) fun v3_109 =>
          f_X10_takesOut_L54 n v1 v2 v3_109 M108
      else
        lt1 (up M 90 (w32 (2 + v3)) (w32 (v4_72 - (w32 (v2 - v1))))) fun M108 =>
        lt1 (w32 (v3 + 1)) fun v3_109 =>
        f_X10_takesOut_L54 n v1 v2 v3_109 M108
      else none
def f_X10_takesOut_K40 (v1 : Int) (v2 : Int) (M : Mem) : Option (Mem) :=
  lt1 (up M 90 0 (w32 ((M 90 0) - (w32 (v2 - v1))))) fun M51 =>
  f_X10_takesOut_L54 4096 v1 v2 0 M51
def f_X10_takesOut_L2 : Nat → Int → Int → Int → Mem → Option (Mem)
  | 0, _, _, _, _ => none
  | n + 1, v1, v2, v3, M =>
    if (M 90 0) ≤ v3 then
      f_X10_takesOut_K40 v1 v2 M
    else
      if (0 : Int) ≤ w32 (14 + v3) ∧ w32 (14 + v3) < 254 then
      if (0 : Int) ≤ w32 ((w32 ((w32 (14 + v1)) + v3)) - v2) ∧ w32 ((w32 ((w32 (14 + v1)) + v3)) - v2) < 254 then
      lt1 (up M 90 (w32 ((w32 ((w32 (14 + v1)) + v3)) - v2)) (M 90 (w32 (14 + v3)))) fun M33 =>
      lt1 (w32 (v3 + 1)) fun v3_34 =>
      f_X10_takesOut_L2 n v1 v2 v3_34 M33
      else none
      else none
def f_X10_takesOut (v1 : Int) (v2 : Int) (M : Mem) : Option (Mem) :=
  f_X10_takesOut_L2 4096 v1 v2 v2 M
set_option maxRecDepth 20000 in
theorem rn_X10_takesOut_L54 {G : Gl} : ∀ (n : Nat) (v1 : Int) (v2 : Int) (v3 : Int) (M : Mem) (res : Mem),  f_X10_takesOut_L54 n v1 v2 v3 M = some res → Run G false (rmD 0 0 0) miX10_takesOut (ZP G none res) 0 0 54 [some (aR 84), some (aI v1), some (aI v2), some (aI v3), none] [] M := by
  intro n
  induction n with
  | zero => intro v1 v2 v3 M res  hf; cases hf
  | succ n ih =>
    intro v1 v2 v3 M res  hf
    rw [f_X10_takesOut_L54] at hf
    refine R_iload_n dX10_takesOut_54 rfl rfl ?_
    refine R_aload_n dX10_takesOut_55 rfl rfl ?_
    refine R_getR dX10_takesOut_56 cl10 flX10_35 o_84 ff10_14 (fr10_14 _) a_90.1 ?_
    refine R_iconst dX10_takesOut_59 (v := 1) rfl ?_
    refine R_iaload dX10_takesOut_60 a_90 (by decide) (by decide) rfl ?_
    refine R_icmp_ge dX10_takesOut_61 rfl (fun h61 => ?_) (fun h61 => ?_)
    · replace hf := iposE hf h61
      cases hf; exact E_vret dX10_takesOut_115 rfl rfl rfl
    · replace hf := inegE hf h61
      refine R_aload_n dX10_takesOut_64 rfl rfl ?_
      refine R_getR dX10_takesOut_65 cl10 flX10_35 o_84 ff10_14 (fr10_14 _) a_90.1 ?_
      refine R_iconst dX10_takesOut_68 (v := 2) rfl ?_
      refine R_iload_n dX10_takesOut_69 rfl rfl ?_
      refine R_iadd dX10_takesOut_70 rfl ?_
      obtain ⟨hg1, hf⟩ := gdE hf
      refine R_iaload dX10_takesOut_71 a_90 hg1.1 hg1.2 rfl ?_
      obtain ⟨v4_72, hv4_72, hf⟩ := ltE hf
      refine R_istore dX10_takesOut_72 (by decide) hv4_72 rfl ?_
      refine R_aload_n dX10_takesOut_74 rfl rfl ?_
      refine R_getR dX10_takesOut_75 cl10 flX10_35 o_84 ff10_14 (fr10_14 _) a_90.1 ?_
      refine R_iconst dX10_takesOut_78 (v := 2) rfl ?_
      refine R_iload_n dX10_takesOut_79 rfl rfl ?_
      refine R_iadd dX10_takesOut_80 rfl ?_
      refine R_iload dX10_takesOut_81 rfl ?_
      refine R_iload_n dX10_takesOut_83 rfl rfl ?_
      refine R_icmp_le dX10_takesOut_84 rfl (fun h84 => ?_) (fun h84 => ?_)
      · replace hf := iposE hf h84
        refine R_iload dX10_takesOut_96 rfl ?_
        refine R_iload_n dX10_takesOut_98 rfl rfl ?_
        refine R_icmp_lt dX10_takesOut_99 rfl (fun h99 => ?_) (fun h99 => ?_)
        · replace hf := iposE hf h99
          refine R_iload dX10_takesOut_106 rfl ?_
          obtain ⟨M108, hM108, hf⟩ := ltE hf
          refine R_iastore dX10_takesOut_108 a_90 hg1.1 hg1.2 hM108 ?_
          obtain ⟨v3_109, hv3_109, hf⟩ := ltE hf
          refine R_iinc dX10_takesOut_109 rfl rfl hv3_109 (by decide) rfl ?_
          refine R_goto dX10_takesOut_112 rfl ?_
          exact R_subk (ih _ _ _ _ _  hf) ⟨rfl, rfl, rfl, rfl, trivial⟩
        · replace hf := inegE hf h99
          refine R_iload_n dX10_takesOut_102 rfl rfl ?_
          refine R_goto dX10_takesOut_103 rfl ?_
          obtain ⟨M108, hM108, hf⟩ := ltE hf
          refine R_iastore dX10_takesOut_108 a_90 hg1.1 hg1.2 hM108 ?_
          obtain ⟨v3_109, hv3_109, hf⟩ := ltE hf
          refine R_iinc dX10_takesOut_109 rfl rfl hv3_109 (by decide) rfl ?_
          refine R_goto dX10_takesOut_112 rfl ?_
          exact R_subk (ih _ _ _ _ _  hf) ⟨rfl, rfl, rfl, rfl, trivial⟩
      · replace hf := inegE hf h84
        refine R_iload dX10_takesOut_87 rfl ?_
        refine R_iload_n dX10_takesOut_89 rfl rfl ?_
        refine R_iload_n dX10_takesOut_90 rfl rfl ?_
        refine R_isub dX10_takesOut_91 rfl ?_
        refine R_isub dX10_takesOut_92 rfl ?_
        refine R_goto dX10_takesOut_93 rfl ?_
        obtain ⟨M108, hM108, hf⟩ := ltE hf
        refine R_iastore dX10_takesOut_108 a_90 hg1.1 hg1.2 hM108 ?_
        obtain ⟨v3_109, hv3_109, hf⟩ := ltE hf
        refine R_iinc dX10_takesOut_109 rfl rfl hv3_109 (by decide) rfl ?_
        refine R_goto dX10_takesOut_112 rfl ?_
        exact R_subk (ih _ _ _ _ _  hf) ⟨rfl, rfl, rfl, rfl, trivial⟩
set_option maxRecDepth 20000 in
theorem rn_X10_takesOut_K40 {G : Gl} (v1 : Int) (v2 : Int) (M : Mem) (res : Mem)  (hf : f_X10_takesOut_K40 v1 v2 M = some res) : Run G false (rmD 0 0 0) miX10_takesOut (ZP G none res) 0 0 40 [some (aR 84), some (aI v1), some (aI v2), none, none] [] M := by
  unfold f_X10_takesOut_K40 at hf
  refine R_aload_n dX10_takesOut_40 rfl rfl ?_
  refine R_getR dX10_takesOut_41 cl10 flX10_35 o_84 ff10_14 (fr10_14 _) a_90.1 ?_
  refine R_iconst dX10_takesOut_44 (v := 0) rfl ?_
  refine R_dup2 dX10_takesOut_45 ?_
  refine R_iaload dX10_takesOut_46 a_90 (by decide) (by decide) rfl ?_
  refine R_iload_n dX10_takesOut_47 rfl rfl ?_
  refine R_iload_n dX10_takesOut_48 rfl rfl ?_
  refine R_isub dX10_takesOut_49 rfl ?_
  refine R_isub dX10_takesOut_50 rfl ?_
  obtain ⟨M51, hM51, hf⟩ := ltE hf
  refine R_iastore dX10_takesOut_51 a_90 (by decide) (by decide) hM51 ?_
  refine R_iconst dX10_takesOut_52 (v := 0) rfl ?_
  refine R_istore_n dX10_takesOut_53 rfl (by decide) rfl rfl ?_
  exact R_subk (rn_X10_takesOut_L54 4096 _ _ _ _ _  hf) ⟨rfl, rfl, rfl, rfl, trivial⟩
set_option maxRecDepth 20000 in
theorem rn_X10_takesOut_L2 {G : Gl} : ∀ (n : Nat) (v1 : Int) (v2 : Int) (v3 : Int) (M : Mem) (res : Mem),  f_X10_takesOut_L2 n v1 v2 v3 M = some res → Run G false (rmD 0 0 0) miX10_takesOut (ZP G none res) 0 0 2 [some (aR 84), some (aI v1), some (aI v2), some (aI v3), none] [] M := by
  intro n
  induction n with
  | zero => intro v1 v2 v3 M res  hf; cases hf
  | succ n ih =>
    intro v1 v2 v3 M res  hf
    rw [f_X10_takesOut_L2] at hf
    refine R_iload_n dX10_takesOut_2 rfl rfl ?_
    refine R_aload_n dX10_takesOut_3 rfl rfl ?_
    refine R_getR dX10_takesOut_4 cl10 flX10_35 o_84 ff10_14 (fr10_14 _) a_90.1 ?_
    refine R_iconst dX10_takesOut_7 (v := 0) rfl ?_
    refine R_iaload dX10_takesOut_8 a_90 (by decide) (by decide) rfl ?_
    refine R_icmp_ge dX10_takesOut_9 rfl (fun h9 => ?_) (fun h9 => ?_)
    · replace hf := iposE hf h9
      exact R_subk (rn_X10_takesOut_K40 _ _ _ _  hf) ⟨rfl, rfl, rfl, trivial⟩
    · replace hf := inegE hf h9
      refine R_aload_n dX10_takesOut_12 rfl rfl ?_
      refine R_getR dX10_takesOut_13 cl10 flX10_35 o_84 ff10_14 (fr10_14 _) a_90.1 ?_
      refine R_bipush dX10_takesOut_16 (v := 14) rfl ?_
      refine R_iload_n dX10_takesOut_18 rfl rfl ?_
      refine R_iadd dX10_takesOut_19 rfl ?_
      refine R_iload_n dX10_takesOut_20 rfl rfl ?_
      refine R_iadd dX10_takesOut_21 rfl ?_
      refine R_iload_n dX10_takesOut_22 rfl rfl ?_
      refine R_isub dX10_takesOut_23 rfl ?_
      refine R_aload_n dX10_takesOut_24 rfl rfl ?_
      refine R_getR dX10_takesOut_25 cl10 flX10_35 o_84 ff10_14 (fr10_14 _) a_90.1 ?_
      refine R_bipush dX10_takesOut_28 (v := 14) rfl ?_
      refine R_iload_n dX10_takesOut_30 rfl rfl ?_
      refine R_iadd dX10_takesOut_31 rfl ?_
      obtain ⟨hg2, hf⟩ := gdE hf
      refine R_iaload dX10_takesOut_32 a_90 hg2.1 hg2.2 rfl ?_
      obtain ⟨hg3, hf⟩ := gdE hf
      obtain ⟨M33, hM33, hf⟩ := ltE hf
      refine R_iastore dX10_takesOut_33 a_90 hg3.1 hg3.2 hM33 ?_
      obtain ⟨v3_34, hv3_34, hf⟩ := ltE hf
      refine R_iinc dX10_takesOut_34 rfl rfl hv3_34 (by decide) rfl ?_
      refine R_goto dX10_takesOut_37 rfl ?_
      exact R_subk (ih _ _ _ _ _  hf) ⟨rfl, rfl, rfl, rfl, trivial⟩
set_option maxRecDepth 20000 in
theorem ct_X10_takesOut {G : Gl} (v1 : Int) (v2 : Int) (M : Mem) {res : Mem}  (hf : f_X10_takesOut v1 v2 M = some res) : Ct G miX10_takesOut yX10_takesOut 0 [aR 84, aI v1, aI v2] M none res := by
  refine Ct.of (L := [some (aR 84), some (aI v1), some (aI v2), none, none]) mwX10_takesOut rfl trivial nle ⟨rfl, rfl, rfl, trivial⟩ ?_
  unfold f_X10_takesOut at hf
  refine R_iload_n dX10_takesOut_0 rfl rfl ?_
  refine R_istore_n dX10_takesOut_1 rfl (by decide) rfl rfl ?_
  exact R_subk (rn_X10_takesOut_L2 4096 _ _ _ _ _  hf) ⟨rfl, rfl, rfl, rfl, trivial⟩
/-! BracketHallModel.wraps(III)V -/
def f_X10_wraps (v1 : Int) (v2 : Int) (v3 : Int) (M : Mem) : Option (Mem) :=
  if (0 : Int) ≤ v3 ∧ v3 < 4 then
  (f_X10_puts v2 (M 86 v3) M).bind fun p8 =>
  (f_X10_puts v1 (p8 85 v3) p8).bind fun p19 =>
  some p19
  else none
set_option maxRecDepth 20000 in
theorem ct_X10_wraps {G : Gl} (v1 : Int) (v2 : Int) (v3 : Int) (M : Mem) {res : Mem}  (hf : f_X10_wraps v1 v2 v3 M = some res) : Ct G miX10_wraps yX10_wraps 1 [aR 84, aI v1, aI v2, aI v3] M none res := by
  refine Ct.of (L := [some (aR 84), some (aI v1), some (aI v2), some (aI v3)]) mwX10_wraps rfl trivial nle ⟨rfl, rfl, rfl, rfl, trivial⟩ ?_
  unfold f_X10_wraps at hf
  refine R_aload_n dX10_wraps_0 rfl rfl ?_
  refine R_iload_n dX10_wraps_1 rfl rfl ?_
  refine R_aload_n dX10_wraps_2 rfl rfl ?_
  refine R_getR dX10_wraps_3 cl10 flX10_13 o_84 ff10_3 (fr10_3 _) a_86.1 ?_
  refine R_iload_n dX10_wraps_6 rfl rfl ?_
  obtain ⟨hg1, hf⟩ := gdE hf
  refine R_iaload dX10_wraps_7 a_86 hg1.1 hg1.2 rfl ?_
  obtain ⟨p8, hp8, hf⟩ := bdE hf
  refine R_callV (As := [aI v2, aI (M 86 v3)]) (st := []) dX10_wraps_8 (ct_X10_puts _ _ _  hp8) mwX10_puts mvX10_puts mlX10_358 cl10 o_84 rfl rfl ⟨nle, nle, nle, nle⟩ nle rfl ?_
  refine R_aload_n dX10_wraps_11 rfl rfl ?_
  refine R_iload_n dX10_wraps_12 rfl rfl ?_
  refine R_aload_n dX10_wraps_13 rfl rfl ?_
  refine R_getR dX10_wraps_14 cl10 flX10_7 o_84 ff10_2 (fr10_2 _) a_85.1 ?_
  refine R_iload_n dX10_wraps_17 rfl rfl ?_
  refine R_iaload dX10_wraps_18 a_85 hg1.1 hg1.2 rfl ?_
  obtain ⟨p19, hp19, hf⟩ := bdE hf
  refine R_callV (As := [aI v1, aI (p8 85 v3)]) (st := []) dX10_wraps_19 (ct_X10_puts _ _ _  hp19) mwX10_puts mvX10_puts mlX10_358 cl10 o_84 rfl rfl ⟨nle, nle, nle, nle⟩ nle rfl ?_
  cases hf; exact E_vret dX10_wraps_22 rfl rfl rfl
/-! BracketHallModel.longBehind()I -/
def f_X10_longBehind_L9 : Nat → Int → Int → Mem → Option (Int)
  | 0, _, _, _ => none
  | n + 1, v1, v2, M =>
    if (M 84 26) ≤ v2 then
      some v1
    else
      if (0 : Int) ≤ v2 ∧ v2 < 240 then
      if (M 100 v2) = 0 then
        lt1 (w32 (v1 + (-1))) fun v1_47 =>
        lt1 (w32 (v2 + 1)) fun v2_48 =>
        f_X10_longBehind_L9 n v1_47 v2_48 M
      else
        if (M 100 v2) = 1 then
          lt1 (w32 (v1 + 1)) fun v1_47 =>
          lt1 (w32 (v2 + 1)) fun v2_48 =>
          f_X10_longBehind_L9 n v1_47 v2_48 M
        else
          lt1 (w32 (v1 + 0)) fun v1_47 =>
          lt1 (w32 (v2 + 1)) fun v2_48 =>
          f_X10_longBehind_L9 n v1_47 v2_48 M
      else none
def f_X10_longBehind  (M : Mem) : Option (Int) :=
  lt1 (M 90 0) fun v1_6 =>
  f_X10_longBehind_L9 4096 v1_6 0 M
set_option maxRecDepth 20000 in
theorem rn_X10_longBehind_L9 {G : Gl} : ∀ (n : Nat) (v1 : Int) (v2 : Int) (M : Mem) (res : Int),  f_X10_longBehind_L9 n v1 v2 M = some res → Run G false (rmD 0 0 0) miX10_longBehind (ZP G (some (aI res)) M) 0 0 9 [some (aR 84), some (aI v1), some (aI v2)] [] M := by
  intro n
  induction n with
  | zero => intro v1 v2 M res  hf; cases hf
  | succ n ih =>
    intro v1 v2 M res  hf
    rw [f_X10_longBehind_L9] at hf
    refine R_iload_n dX10_longBehind_9 rfl rfl ?_
    refine R_aload_n dX10_longBehind_10 rfl rfl ?_
    refine R_getI (ki := 26) dX10_longBehind_11 cl10 flX10_264 o_84 ff10_26 rfl rfl ?_
    refine R_icmp_ge dX10_longBehind_14 rfl (fun h14 => ?_) (fun h14 => ?_)
    · replace hf := iposE hf h14
      refine R_iload_n dX10_longBehind_54 rfl rfl ?_
      cases hf; exact E_iret dX10_longBehind_55 rfl rfl rfl
    · replace hf := inegE hf h14
      refine R_iload_n dX10_longBehind_17 rfl rfl ?_
      refine R_aload_n dX10_longBehind_18 rfl rfl ?_
      refine R_getR dX10_longBehind_19 cl10 flX10_71 o_84 ff10_34 (fr10_34 _) a_100.1 ?_
      refine R_iload_n dX10_longBehind_22 rfl rfl ?_
      obtain ⟨hg1, hf⟩ := gdE hf
      refine R_iaload dX10_longBehind_23 a_100 hg1.1 hg1.2 rfl ?_
      refine R_if_ne dX10_longBehind_24 rfl (fun h24 => ?_) (fun h24 => ?_)
      · replace hf := inegE hf h24
        refine R_aload_n dX10_longBehind_31 rfl rfl ?_
        refine R_getR dX10_longBehind_32 cl10 flX10_71 o_84 ff10_34 (fr10_34 _) a_100.1 ?_
        refine R_iload_n dX10_longBehind_35 rfl rfl ?_
        refine R_iaload dX10_longBehind_36 a_100 hg1.1 hg1.2 rfl ?_
        refine R_iconst dX10_longBehind_37 (v := 1) rfl ?_
        refine R_icmp_ne dX10_longBehind_38 rfl (fun h38 => ?_) (fun h38 => ?_)
        · replace hf := inegE hf h38
          refine R_iconst dX10_longBehind_45 (v := 0) rfl ?_
          refine R_iadd dX10_longBehind_46 rfl ?_
          obtain ⟨v1_47, hv1_47, hf⟩ := ltE hf
          refine R_istore_n dX10_longBehind_47 rfl (by decide) hv1_47 rfl ?_
          obtain ⟨v2_48, hv2_48, hf⟩ := ltE hf
          refine R_iinc dX10_longBehind_48 rfl rfl hv2_48 (by decide) rfl ?_
          refine R_goto dX10_longBehind_51 rfl ?_
          exact R_subk (ih _ _ _ _  hf) ⟨rfl, rfl, rfl, trivial⟩
        · replace hf := iposE hf h38
          refine R_iconst dX10_longBehind_41 (v := 1) rfl ?_
          refine R_goto dX10_longBehind_42 rfl ?_
          refine R_iadd dX10_longBehind_46 rfl ?_
          obtain ⟨v1_47, hv1_47, hf⟩ := ltE hf
          refine R_istore_n dX10_longBehind_47 rfl (by decide) hv1_47 rfl ?_
          obtain ⟨v2_48, hv2_48, hf⟩ := ltE hf
          refine R_iinc dX10_longBehind_48 rfl rfl hv2_48 (by decide) rfl ?_
          refine R_goto dX10_longBehind_51 rfl ?_
          exact R_subk (ih _ _ _ _  hf) ⟨rfl, rfl, rfl, trivial⟩
      · replace hf := iposE hf h24
        refine R_iconst dX10_longBehind_27 (v := (-1)) rfl ?_
        refine R_goto dX10_longBehind_28 rfl ?_
        refine R_iadd dX10_longBehind_46 rfl ?_
        obtain ⟨v1_47, hv1_47, hf⟩ := ltE hf
        refine R_istore_n dX10_longBehind_47 rfl (by decide) hv1_47 rfl ?_
        obtain ⟨v2_48, hv2_48, hf⟩ := ltE hf
        refine R_iinc dX10_longBehind_48 rfl rfl hv2_48 (by decide) rfl ?_
        refine R_goto dX10_longBehind_51 rfl ?_
        exact R_subk (ih _ _ _ _  hf) ⟨rfl, rfl, rfl, trivial⟩
set_option maxRecDepth 20000 in
theorem ct_X10_longBehind {G : Gl}  (M : Mem) {res : Int}  (hf : f_X10_longBehind  M = some res) : Ct G miX10_longBehind yX10_longBehind 0 [aR 84] M (some (aI res)) M := by
  refine Ct.of (L := [some (aR 84), none, none]) mwX10_longBehind rfl trivial nle ⟨rfl, trivial⟩ ?_
  unfold f_X10_longBehind at hf
  refine R_aload_n dX10_longBehind_0 rfl rfl ?_
  refine R_getR dX10_longBehind_1 cl10 flX10_35 o_84 ff10_14 (fr10_14 _) a_90.1 ?_
  refine R_iconst dX10_longBehind_4 (v := 0) rfl ?_
  refine R_iaload dX10_longBehind_5 a_90 (by decide) (by decide) rfl ?_
  obtain ⟨v1_6, hv1_6, hf⟩ := ltE hf
  refine R_istore_n dX10_longBehind_6 rfl (by decide) hv1_6 rfl ?_
  refine R_iconst dX10_longBehind_7 (v := 0) rfl ?_
  refine R_istore_n dX10_longBehind_8 rfl (by decide) rfl rfl ?_
  exact R_subk (rn_X10_longBehind_L9 4096 _ _ _ _  hf) ⟨rfl, rfl, rfl, trivial⟩
