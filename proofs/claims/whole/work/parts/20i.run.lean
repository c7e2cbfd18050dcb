/-! BracketHallModel.starts(IZ)Z -/
def f_X10_starts (v1 : Int) (v2 : Int) (M : Mem) : Option (Int × Mem) :=
  if v2 = 0 then
    (f_X10_fails v1 M).bind fun p6 =>
    if p6.1 = 0 ∨ p6.1 = 1 then
    some (p6.1, p6.2)
    else none
  else
    (f_X10_advance M).bind fun p11 =>
    some (1, p11)
set_option maxRecDepth 20000 in
theorem ct_X10_starts {G : Gl} (v1 : Int) (v2 : Int) (M : Mem) {res : Int × Mem}  (hf : f_X10_starts v1 v2 M = some res) : Ct G miX10_starts yX10_starts 4 [aR 84, aI v1, aI v2] M (some (aI res.1)) res.2 := by
  refine Ct.of (L := [some (aR 84), some (aI v1), some (aI v2)]) mwX10_starts rfl trivial nle ⟨rfl, rfl, rfl, trivial⟩ ?_
  unfold f_X10_starts at hf
  refine R_iload_n dX10_starts_0 rfl rfl ?_
  refine R_if_ne dX10_starts_1 rfl (fun h1 => ?_) (fun h1 => ?_)
  · replace hf := inegE hf h1
    refine R_aload_n dX10_starts_10 rfl rfl ?_
    obtain ⟨p11, hp11, hf⟩ := bdE hf
    refine R_callV (As := []) (st := []) dX10_starts_11 (ct_X10_advance  _  hp11) mwX10_advance mvX10_advance mlX10_175 cl10 o_84 rfl rfl ⟨nle, nle, nle, nle⟩ nle rfl ?_
    refine R_iconst dX10_starts_14 (v := 1) rfl ?_
    cases hf; exact E_zret dX10_starts_15 rfl (by decide) rfl rfl
  · replace hf := iposE hf h1
    refine R_aload_n dX10_starts_4 rfl rfl ?_
    refine R_iload_n dX10_starts_5 rfl rfl ?_
    obtain ⟨p6, hp6, hf⟩ := bdE hf
    refine R_callV (As := [aI v1]) (st := []) dX10_starts_6 (ct_X10_fails _ _  hp6) mwX10_fails mvX10_fails mlX10_172 cl10 o_84 rfl rfl ⟨nle, nle, nle, nle⟩ nle rfl ?_
    obtain ⟨hb, hf⟩ := gdE hf
    cases hf; exact E_zret dX10_starts_9 rfl hb rfl rfl
/-! BracketHallModel.takes(II)Z -/
def f_X10_takes (v1 : Int) (v2 : Int) (M : Mem) : Option (Int × Mem) :=
  if (M 84 20) = 2 then
    lt1 (up M 84 24 (M 84 21)) fun M19 =>
    (f_X10_isIn (M19 84 21) v1 v2 M19).bind fun p30 =>
    (f_X10_starts 2 p30 M19).bind fun p33 =>
    if p33.1 = 0 ∨ p33.1 = 1 then
    some (p33.1, p33.2)
    else none
  else
    (f_X10_fails 1 M).bind fun p10 =>
    if p10.1 = 0 ∨ p10.1 = 1 then
    some (p10.1, p10.2)
    else none
set_option maxRecDepth 20000 in
theorem ct_X10_takes {G : Gl} (v1 : Int) (v2 : Int) (M : Mem) {res : Int × Mem}  (hf : f_X10_takes v1 v2 M = some res) : Ct G miX10_takes yX10_takes 5 [aR 84, aI v1, aI v2] M (some (aI res.1)) res.2 := by
  refine Ct.of (L := [some (aR 84), some (aI v1), some (aI v2)]) mwX10_takes rfl trivial nle ⟨rfl, rfl, rfl, trivial⟩ ?_
  unfold f_X10_takes at hf
  refine R_aload_n dX10_takes_0 rfl rfl ?_
  refine R_getI (ki := 20) dX10_takes_1 cl10 flX10_154 o_84 ff10_20 rfl rfl ?_
  refine R_iconst dX10_takes_4 (v := 2) rfl ?_
  refine R_icmp_eq dX10_takes_5 rfl (fun h5 => ?_) (fun h5 => ?_)
  · replace hf := iposE hf h5
    refine R_aload_n dX10_takes_14 rfl rfl ?_
    refine R_aload_n dX10_takes_15 rfl rfl ?_
    refine R_getI (ki := 21) dX10_takes_16 cl10 flX10_151 o_84 ff10_21 rfl rfl ?_
    obtain ⟨M19, hM19, hf⟩ := ltE hf
    refine R_put (ki := 24) dX10_takes_19 cl10 flX10_178 o_84 (Or.inl fz10_24) rfl hM19 ?_
    refine R_aload_n dX10_takes_22 rfl rfl ?_
    refine R_iconst dX10_takes_23 (v := 2) rfl ?_
    refine R_aload_n dX10_takes_24 rfl rfl ?_
    refine R_getI (ki := 21) dX10_takes_25 cl10 flX10_151 o_84 ff10_21 rfl rfl ?_
    refine R_iload_n dX10_takes_28 rfl rfl ?_
    refine R_iload_n dX10_takes_29 rfl rfl ?_
    obtain ⟨p30, hp30, hf⟩ := bdE hf
    refine R_callS (As := [aI (M19 84 21), aI v1, aI v2]) (st := [aI 2, aR 84]) dX10_takes_30 (ct_X10_isIn _ _ _ _  hp30) mwX10_isIn msX10_isIn mlX10_130 rfl ⟨nle, nle, nle, nle⟩ nle rfl ?_
    obtain ⟨p33, hp33, hf⟩ := bdE hf
    refine R_callV (As := [aI 2, aI p30]) (st := []) dX10_takes_33 (ct_X10_starts _ _ _  hp33) mwX10_starts mvX10_starts mlX10_181 cl10 o_84 rfl rfl ⟨nle, nle, nle, nle⟩ nle rfl ?_
    obtain ⟨hb, hf⟩ := gdE hf
    cases hf; exact E_zret dX10_takes_36 rfl hb rfl rfl
  · replace hf := inegE hf h5
    refine R_aload_n dX10_takes_8 rfl rfl ?_
    refine R_iconst dX10_takes_9 (v := 1) rfl ?_
    obtain ⟨p10, hp10, hf⟩ := bdE hf
    refine R_callV (As := [aI 1]) (st := []) dX10_takes_10 (ct_X10_fails _ _  hp10) mwX10_fails mvX10_fails mlX10_172 cl10 o_84 rfl rfl ⟨nle, nle, nle, nle⟩ nle rfl ?_
    obtain ⟨hb, hf⟩ := gdE hf
    cases hf; exact E_zret dX10_takes_13 rfl hb rfl rfl
/-! BracketHallModel.semicolon()Z -/
def f_X10_semicolon  (M : Mem) : Option (Int × Mem) :=
  if (M 84 20) = 3 then
    (f_X10_starts 1 1 M).bind fun p15 =>
    if p15.1 = 0 ∨ p15.1 = 1 then
    some (p15.1, p15.2)
    else none
  else
    (f_X10_starts 1 0 M).bind fun p15 =>
    if p15.1 = 0 ∨ p15.1 = 1 then
    some (p15.1, p15.2)
    else none
set_option maxRecDepth 20000 in
theorem ct_X10_semicolon {G : Gl}  (M : Mem) {res : Int × Mem}  (hf : f_X10_semicolon  M = some res) : Ct G miX10_semicolon yX10_semicolon 5 [aR 84] M (some (aI res.1)) res.2 := by
  refine Ct.of (L := [some (aR 84)]) mwX10_semicolon rfl trivial nle ⟨rfl, trivial⟩ ?_
  unfold f_X10_semicolon at hf
  refine R_aload_n dX10_semicolon_0 rfl rfl ?_
  refine R_iconst dX10_semicolon_1 (v := 1) rfl ?_
  refine R_aload_n dX10_semicolon_2 rfl rfl ?_
  refine R_getI (ki := 20) dX10_semicolon_3 cl10 flX10_154 o_84 ff10_20 rfl rfl ?_
  refine R_iconst dX10_semicolon_6 (v := 3) rfl ?_
  refine R_icmp_ne dX10_semicolon_7 rfl (fun h7 => ?_) (fun h7 => ?_)
  · replace hf := inegE hf h7
    refine R_iconst dX10_semicolon_14 (v := 0) rfl ?_
    obtain ⟨p15, hp15, hf⟩ := bdE hf
    refine R_callV (As := [aI 1, aI 0]) (st := []) dX10_semicolon_15 (ct_X10_starts _ _ _  hp15) mwX10_starts mvX10_starts mlX10_181 cl10 o_84 rfl rfl ⟨nle, nle, nle, nle⟩ nle rfl ?_
    obtain ⟨hb, hf⟩ := gdE hf
    cases hf; exact E_zret dX10_semicolon_18 rfl hb rfl rfl
  · replace hf := iposE hf h7
    refine R_iconst dX10_semicolon_10 (v := 1) rfl ?_
    refine R_goto dX10_semicolon_11 rfl ?_
    obtain ⟨p15, hp15, hf⟩ := bdE hf
    refine R_callV (As := [aI 1, aI 1]) (st := []) dX10_semicolon_15 (ct_X10_starts _ _ _  hp15) mwX10_starts mvX10_starts mlX10_181 cl10 o_84 rfl rfl ⟨nle, nle, nle, nle⟩ nle rfl ?_
    obtain ⟨hb, hf⟩ := gdE hf
    cases hf; exact E_zret dX10_semicolon_18 rfl hb rfl rfl
/-! BracketHallModel.beginsText(I)V -/
def f_X10_beginsText (v1 : Int) (M : Mem) : Option (Mem) :=
  lt1 (up M 84 17 v1) fun M2 =>
  lt1 (up M2 84 16 0) fun M7 =>
  lt1 (up M7 84 19 0) fun M12 =>
  lt1 (up M12 84 22 0) fun M17 =>
  lt1 (up M17 84 23 (-1)) fun M22 =>
  (f_X10_advance M22).bind fun p26 =>
  some p26
set_option maxRecDepth 20000 in
theorem ct_X10_beginsText {G : Gl} (v1 : Int) (M : Mem) {res : Mem}  (hf : f_X10_beginsText v1 M = some res) : Ct G miX10_beginsText yX10_beginsText 4 [aR 84, aI v1] M none res := by
  refine Ct.of (L := [some (aR 84), some (aI v1)]) mwX10_beginsText rfl trivial nle ⟨rfl, rfl, trivial⟩ ?_
  unfold f_X10_beginsText at hf
  refine R_aload_n dX10_beginsText_0 rfl rfl ?_
  refine R_iload_n dX10_beginsText_1 rfl rfl ?_
  obtain ⟨M2, hM2, hf⟩ := ltE hf
  refine R_put (ki := 17) dX10_beginsText_2 cl10 flX10_127 o_84 (Or.inl fz10_17) rfl hM2 ?_
  refine R_aload_n dX10_beginsText_5 rfl rfl ?_
  refine R_iconst dX10_beginsText_6 (v := 0) rfl ?_
  obtain ⟨M7, hM7, hf⟩ := ltE hf
  refine R_put (ki := 16) dX10_beginsText_7 cl10 flX10_120 o_84 (Or.inl fz10_16) rfl hM7 ?_
  refine R_aload_n dX10_beginsText_10 rfl rfl ?_
  refine R_iconst dX10_beginsText_11 (v := 0) rfl ?_
  obtain ⟨M12, hM12, hf⟩ := ltE hf
  refine R_put (ki := 19) dX10_beginsText_12 cl10 flX10_141 o_84 (Or.inl fz10_19) rfl hM12 ?_
  refine R_aload_n dX10_beginsText_15 rfl rfl ?_
  refine R_iconst dX10_beginsText_16 (v := 0) rfl ?_
  obtain ⟨M17, hM17, hf⟩ := ltE hf
  refine R_put (ki := 22) dX10_beginsText_17 cl10 flX10_169 o_84 (Or.inl fz10_22) rfl hM17 ?_
  refine R_aload_n dX10_beginsText_20 rfl rfl ?_
  refine R_iconst dX10_beginsText_21 (v := (-1)) rfl ?_
  obtain ⟨M22, hM22, hf⟩ := ltE hf
  refine R_put (ki := 23) dX10_beginsText_22 cl10 flX10_42 o_84 (Or.inl fz10_23) rfl hM22 ?_
  refine R_aload_n dX10_beginsText_25 rfl rfl ?_
  obtain ⟨p26, hp26, hf⟩ := bdE hf
  refine R_callV (As := []) (st := []) dX10_beginsText_26 (ct_X10_advance  _  hp26) mwX10_advance mvX10_advance mlX10_175 cl10 o_84 rfl rfl ⟨nle, nle, nle, nle⟩ nle rfl ?_
  cases hf; exact E_vret dX10_beginsText_29 rfl rfl rfl
/-! BracketHallModel.isTold(I)Z -/
def f_X10_isTold_L32 : Nat → Int → Int → Int → Mem → Option (Int)
  | 0, _, _, _, _ => none
  | n + 1, v1, v2, v3, M =>
    if (M 84 7) ≤ v3 then
      if v2 = 0 ∨ v2 = 1 then
      some v2
      else none
    else
      if v2 = 0 then
        if (0 : Int) ≤ v3 ∧ v3 < 4 then
        if v1 = (M 87 v3) then
          lt1 (w32 (v3 + 1)) fun v3_70 =>
          f_X10_isTold_L32 n v1 1 v3_70 M
        else
          if v1 = (M 88 v3) then
            lt1 (w32 (v3 + 1)) fun v3_70 =>
            f_X10_isTold_L32 n v1 1 v3_70 M
          else
            lt1 (w32 (v3 + 1)) fun v3_70 =>
            f_X10_isTold_L32 n v1 0 v3_70 M
        else none
      else
        lt1 (w32 (v3 + 1)) fun v3_70 =>
        f_X10_isTold_L32 n v1 1 v3_70 M
def f_X10_isTold (v1 : Int) (M : Mem) : Option (Int) :=
  if v1 = (M 84 10) then
    f_X10_isTold_L32 4096 v1 1 0 M
  else
    if v1 = (M 84 11) then
      f_X10_isTold_L32 4096 v1 1 0 M
    else
      if v1 = (M 84 12) then
        f_X10_isTold_L32 4096 v1 1 0 M
      else
        f_X10_isTold_L32 4096 v1 0 0 M
set_option maxRecDepth 20000 in
theorem rn_X10_isTold_L32 {G : Gl} : ∀ (n : Nat) (v1 : Int) (v2 : Int) (v3 : Int) (M : Mem) (res : Int),  f_X10_isTold_L32 n v1 v2 v3 M = some res → Run G false (rmD 0 0 0) miX10_isTold (ZP G (some (aI res)) M) 0 0 32 [some (aR 84), some (aI v1), some (aI v2), some (aI v3)] [] M := by
  intro n
  induction n with
  | zero => intro v1 v2 v3 M res  hf; cases hf
  | succ n ih =>
    intro v1 v2 v3 M res  hf
    rw [f_X10_isTold_L32] at hf
    refine R_iload_n dX10_isTold_32 rfl rfl ?_
    refine R_aload_n dX10_isTold_33 rfl rfl ?_
    refine R_getI (ki := 7) dX10_isTold_34 cl10 flX10_194 o_84 ff10_7 rfl rfl ?_
    refine R_icmp_ge dX10_isTold_37 rfl (fun h37 => ?_) (fun h37 => ?_)
    · replace hf := iposE hf h37
      refine R_iload_n dX10_isTold_76 rfl rfl ?_
      obtain ⟨hb, hf⟩ := gdE hf
      cases hf; exact E_zret dX10_isTold_77 rfl hb rfl rfl
    · replace hf := inegE hf h37
      refine R_iload_n dX10_isTold_40 rfl rfl ?_
      refine R_if_ne dX10_isTold_41 rfl (fun h41 => ?_) (fun h41 => ?_)
      · replace hf := inegE hf h41
        refine R_iconst dX10_isTold_64 (v := 1) rfl ?_
        refine R_goto dX10_isTold_65 rfl ?_
        refine R_istore_n dX10_isTold_69 rfl (by decide) rfl rfl ?_
        obtain ⟨v3_70, hv3_70, hf⟩ := ltE hf
        refine R_iinc dX10_isTold_70 rfl rfl hv3_70 (by decide) rfl ?_
        refine R_goto dX10_isTold_73 rfl ?_
        exact R_subk (ih _ _ _ _ _  hf) ⟨rfl, rfl, rfl, rfl, trivial⟩
      · replace hf := iposE hf h41
        refine R_iload_n dX10_isTold_44 rfl rfl ?_
        refine R_aload_n dX10_isTold_45 rfl rfl ?_
        refine R_getR dX10_isTold_46 cl10 flX10_26 o_84 ff10_8 (fr10_8 _) a_87.1 ?_
        refine R_iload_n dX10_isTold_49 rfl rfl ?_
        obtain ⟨hg1, hf⟩ := gdE hf
        refine R_iaload dX10_isTold_50 a_87 hg1.1 hg1.2 rfl ?_
        refine R_icmp_eq dX10_isTold_51 rfl (fun h51 => ?_) (fun h51 => ?_)
        · replace hf := iposE hf h51
          refine R_iconst dX10_isTold_64 (v := 1) rfl ?_
          refine R_goto dX10_isTold_65 rfl ?_
          refine R_istore_n dX10_isTold_69 rfl (by decide) rfl rfl ?_
          obtain ⟨v3_70, hv3_70, hf⟩ := ltE hf
          refine R_iinc dX10_isTold_70 rfl rfl hv3_70 (by decide) rfl ?_
          refine R_goto dX10_isTold_73 rfl ?_
          exact R_subk (ih _ _ _ _ _  hf) ⟨rfl, rfl, rfl, rfl, trivial⟩
        · replace hf := inegE hf h51
          refine R_iload_n dX10_isTold_54 rfl rfl ?_
          refine R_aload_n dX10_isTold_55 rfl rfl ?_
          refine R_getR dX10_isTold_56 cl10 flX10_29 o_84 ff10_9 (fr10_9 _) a_88.1 ?_
          refine R_iload_n dX10_isTold_59 rfl rfl ?_
          refine R_iaload dX10_isTold_60 a_88 hg1.1 hg1.2 rfl ?_
          refine R_icmp_ne dX10_isTold_61 rfl (fun h61 => ?_) (fun h61 => ?_)
          · replace hf := inegE hf h61
            refine R_iconst dX10_isTold_68 (v := 0) rfl ?_
            refine R_istore_n dX10_isTold_69 rfl (by decide) rfl rfl ?_
            obtain ⟨v3_70, hv3_70, hf⟩ := ltE hf
            refine R_iinc dX10_isTold_70 rfl rfl hv3_70 (by decide) rfl ?_
            refine R_goto dX10_isTold_73 rfl ?_
            exact R_subk (ih _ _ _ _ _  hf) ⟨rfl, rfl, rfl, rfl, trivial⟩
          · replace hf := iposE hf h61
            refine R_iconst dX10_isTold_64 (v := 1) rfl ?_
            refine R_goto dX10_isTold_65 rfl ?_
            refine R_istore_n dX10_isTold_69 rfl (by decide) rfl rfl ?_
            obtain ⟨v3_70, hv3_70, hf⟩ := ltE hf
            refine R_iinc dX10_isTold_70 rfl rfl hv3_70 (by decide) rfl ?_
            refine R_goto dX10_isTold_73 rfl ?_
            exact R_subk (ih _ _ _ _ _  hf) ⟨rfl, rfl, rfl, rfl, trivial⟩
set_option maxRecDepth 20000 in
theorem ct_X10_isTold {G : Gl} (v1 : Int) (M : Mem) {res : Int}  (hf : f_X10_isTold v1 M = some res) : Ct G miX10_isTold yX10_isTold 0 [aR 84, aI v1] M (some (aI res)) M := by
  refine Ct.of (L := [some (aR 84), some (aI v1), none, none]) mwX10_isTold rfl trivial nle ⟨rfl, rfl, trivial⟩ ?_
  unfold f_X10_isTold at hf
  refine R_iload_n dX10_isTold_0 rfl rfl ?_
  refine R_aload_n dX10_isTold_1 rfl rfl ?_
  refine R_getI (ki := 10) dX10_isTold_2 cl10 flX10_185 o_84 ff10_10 rfl rfl ?_
  refine R_icmp_eq dX10_isTold_5 rfl (fun h5 => ?_) (fun h5 => ?_)
  · replace hf := iposE hf h5
    refine R_iconst dX10_isTold_24 (v := 1) rfl ?_
    refine R_goto dX10_isTold_25 rfl ?_
    refine R_istore_n dX10_isTold_29 rfl (by decide) rfl rfl ?_
    refine R_iconst dX10_isTold_30 (v := 0) rfl ?_
    refine R_istore_n dX10_isTold_31 rfl (by decide) rfl rfl ?_
    exact R_subk (rn_X10_isTold_L32 4096 _ _ _ _ _  hf) ⟨rfl, rfl, rfl, rfl, trivial⟩
  · replace hf := inegE hf h5
    refine R_iload_n dX10_isTold_8 rfl rfl ?_
    refine R_aload_n dX10_isTold_9 rfl rfl ?_
    refine R_getI (ki := 11) dX10_isTold_10 cl10 flX10_188 o_84 ff10_11 rfl rfl ?_
    refine R_icmp_eq dX10_isTold_13 rfl (fun h13 => ?_) (fun h13 => ?_)
    · replace hf := iposE hf h13
      refine R_iconst dX10_isTold_24 (v := 1) rfl ?_
      refine R_goto dX10_isTold_25 rfl ?_
      refine R_istore_n dX10_isTold_29 rfl (by decide) rfl rfl ?_
      refine R_iconst dX10_isTold_30 (v := 0) rfl ?_
      refine R_istore_n dX10_isTold_31 rfl (by decide) rfl rfl ?_
      exact R_subk (rn_X10_isTold_L32 4096 _ _ _ _ _  hf) ⟨rfl, rfl, rfl, rfl, trivial⟩
    · replace hf := inegE hf h13
      refine R_iload_n dX10_isTold_16 rfl rfl ?_
      refine R_aload_n dX10_isTold_17 rfl rfl ?_
      refine R_getI (ki := 12) dX10_isTold_18 cl10 flX10_191 o_84 ff10_12 rfl rfl ?_
      refine R_icmp_ne dX10_isTold_21 rfl (fun h21 => ?_) (fun h21 => ?_)
      · replace hf := inegE hf h21
        refine R_iconst dX10_isTold_28 (v := 0) rfl ?_
        refine R_istore_n dX10_isTold_29 rfl (by decide) rfl rfl ?_
        refine R_iconst dX10_isTold_30 (v := 0) rfl ?_
        refine R_istore_n dX10_isTold_31 rfl (by decide) rfl rfl ?_
        exact R_subk (rn_X10_isTold_L32 4096 _ _ _ _ _  hf) ⟨rfl, rfl, rfl, rfl, trivial⟩
      · replace hf := iposE hf h21
        refine R_iconst dX10_isTold_24 (v := 1) rfl ?_
        refine R_goto dX10_isTold_25 rfl ?_
        refine R_istore_n dX10_isTold_29 rfl (by decide) rfl rfl ?_
        refine R_iconst dX10_isTold_30 (v := 0) rfl ?_
        refine R_istore_n dX10_isTold_31 rfl (by decide) rfl rfl ?_
        exact R_subk (rn_X10_isTold_L32 4096 _ _ _ _ _  hf) ⟨rfl, rfl, rfl, rfl, trivial⟩
/-! BracketHallModel.readKind()Z -/
def f_X10_readKind  (M : Mem) : Option (Int × Mem) :=
  if (M 84 20) = 5 then
    (f_X10_byteAt (M 84 18) M).bind fun p19 =>
    (f_X10_byteAt (w32 ((M 84 18) + 1)) M).bind fun p30 =>
    if p19 = p30 then
      (f_X10_fails 3 M).bind fun p57 =>
      if p57.1 = 0 ∨ p57.1 = 1 then
      some (p57.1, p57.2)
      else none
    else
      (f_X10_isTold p19 M).bind fun p41 =>
      if p41 = 0 then
        (f_X10_isTold p30 M).bind fun p49 =>
        if p49 = 0 then
          if (M 84 7) = 4 then
            (f_X10_fails 4 M).bind fun p71 =>
            if p71.1 = 0 ∨ p71.1 = 1 then
            some (p71.1, p71.2)
            else none
          else
            if (0 : Int) ≤ M 84 7 ∧ M 84 7 < 4 then
            lt1 (up M 87 (M 84 7) p19) fun M84 =>
            if (0 : Int) ≤ M84 84 7 ∧ M84 84 7 < 4 then
            lt1 (up M84 88 (M84 84 7) p30) fun M94 =>
            lt1 (up M94 84 7 (w32 ((M94 84 7) + 1))) fun M102 =>
            (f_X10_advance M102).bind fun p106 =>
            some (1, p106)
            else none
            else none
        else
          (f_X10_fails 3 M).bind fun p57 =>
          if p57.1 = 0 ∨ p57.1 = 1 then
          some (p57.1, p57.2)
          else none
      else
        (f_X10_fails 3 M).bind fun p57 =>
        if p57.1 = 0 ∨ p57.1 = 1 then
        some (p57.1, p57.2)
        else none
  else
    (f_X10_fails 1 M).bind fun p10 =>
    if p10.1 = 0 ∨ p10.1 = 1 then
    some (p10.1, p10.2)
    else none
set_option maxRecDepth 20000 in
theorem ct_X10_readKind {G : Gl}  (M : Mem) {res : Int × Mem}  (hf : f_X10_readKind  M = some res) : Ct G miX10_readKind yX10_readKind 4 [aR 84] M (some (aI res.1)) res.2 := by
  refine Ct.of (L := [some (aR 84), none, none]) mwX10_readKind rfl trivial nle ⟨rfl, trivial⟩ ?_
  unfold f_X10_readKind at hf
  refine R_aload_n dX10_readKind_0 rfl rfl ?_
  refine R_getI (ki := 20) dX10_readKind_1 cl10 flX10_154 o_84 ff10_20 rfl rfl ?_
  refine R_iconst dX10_readKind_4 (v := 5) rfl ?_
  refine R_icmp_eq dX10_readKind_5 rfl (fun h5 => ?_) (fun h5 => ?_)
  · replace hf := iposE hf h5
    refine R_aload_n dX10_readKind_14 rfl rfl ?_
    refine R_aload_n dX10_readKind_15 rfl rfl ?_
    refine R_getI (ki := 18) dX10_readKind_16 cl10 flX10_148 o_84 ff10_18 rfl rfl ?_
    obtain ⟨p19, hp19, hf⟩ := bdE hf
    refine R_callV (As := [aI (M 84 18)]) (st := []) dX10_readKind_19 (ct_X10_byteAt _ _  hp19) mwX10_byteAt mvX10_byteAt mlX10_144 cl10 o_84 rfl rfl ⟨nle, nle, nle, nle⟩ nle rfl ?_
    refine R_istore_n dX10_readKind_22 rfl (by decide) rfl rfl ?_
    refine R_aload_n dX10_readKind_23 rfl rfl ?_
    refine R_aload_n dX10_readKind_24 rfl rfl ?_
    refine R_getI (ki := 18) dX10_readKind_25 cl10 flX10_148 o_84 ff10_18 rfl rfl ?_
    refine R_iconst dX10_readKind_28 (v := 1) rfl ?_
    refine R_iadd dX10_readKind_29 rfl ?_
    obtain ⟨p30, hp30, hf⟩ := bdE hf
    refine R_callV (As := [aI (w32 ((M 84 18) + 1))]) (st := []) dX10_readKind_30 (ct_X10_byteAt _ _  hp30) mwX10_byteAt mvX10_byteAt mlX10_144 cl10 o_84 rfl rfl ⟨nle, nle, nle, nle⟩ nle rfl ?_
    refine R_istore_n dX10_readKind_33 rfl (by decide) rfl rfl ?_
    refine R_iload_n dX10_readKind_34 rfl rfl ?_
    refine R_iload_n dX10_readKind_35 rfl rfl ?_
    refine R_icmp_eq dX10_readKind_36 rfl (fun h36 => ?_) (fun h36 => ?_)
    · replace hf := iposE hf h36
      refine R_aload_n dX10_readKind_55 rfl rfl ?_
      refine R_iconst dX10_readKind_56 (v := 3) rfl ?_
      obtain ⟨p57, hp57, hf⟩ := bdE hf
      refine R_callV (As := [aI 3]) (st := []) dX10_readKind_57 (ct_X10_fails _ _  hp57) mwX10_fails mvX10_fails mlX10_172 cl10 o_84 rfl rfl ⟨nle, nle, nle, nle⟩ nle rfl ?_
      obtain ⟨hb, hf⟩ := gdE hf
      cases hf; exact E_zret dX10_readKind_60 rfl hb rfl rfl
    · replace hf := inegE hf h36
      refine R_aload_n dX10_readKind_39 rfl rfl ?_
      refine R_iload_n dX10_readKind_40 rfl rfl ?_
      obtain ⟨p41, hp41, hf⟩ := bdE hf
      refine R_callV (As := [aI p19]) (st := []) dX10_readKind_41 (ct_X10_isTold _ _  hp41) mwX10_isTold mvX10_isTold mlX10_197 cl10 o_84 rfl rfl ⟨nle, nle, nle, nle⟩ nle rfl ?_
      refine R_if_ne dX10_readKind_44 rfl (fun h44 => ?_) (fun h44 => ?_)
      · replace hf := inegE hf h44
        refine R_aload_n dX10_readKind_55 rfl rfl ?_
        refine R_iconst dX10_readKind_56 (v := 3) rfl ?_
        obtain ⟨p57, hp57, hf⟩ := bdE hf
        refine R_callV (As := [aI 3]) (st := []) dX10_readKind_57 (ct_X10_fails _ _  hp57) mwX10_fails mvX10_fails mlX10_172 cl10 o_84 rfl rfl ⟨nle, nle, nle, nle⟩ nle rfl ?_
        obtain ⟨hb, hf⟩ := gdE hf
        cases hf; exact E_zret dX10_readKind_60 rfl hb rfl rfl
      · replace hf := iposE hf h44
        refine R_aload_n dX10_readKind_47 rfl rfl ?_
        refine R_iload_n dX10_readKind_48 rfl rfl ?_
        obtain ⟨p49, hp49, hf⟩ := bdE hf
        refine R_callV (As := [aI p30]) (st := []) dX10_readKind_49 (ct_X10_isTold _ _  hp49) mwX10_isTold mvX10_isTold mlX10_197 cl10 o_84 rfl rfl ⟨nle, nle, nle, nle⟩ nle rfl ?_
        refine R_if_eq dX10_readKind_52 rfl (fun h52 => ?_) (fun h52 => ?_)
        · replace hf := iposE hf h52
          refine R_aload_n dX10_readKind_61 rfl rfl ?_
          refine R_getI (ki := 7) dX10_readKind_62 cl10 flX10_194 o_84 ff10_7 rfl rfl ?_
          refine R_iconst dX10_readKind_65 (v := 4) rfl ?_
          refine R_icmp_ne dX10_readKind_66 rfl (fun h66 => ?_) (fun h66 => ?_)
          · replace hf := inegE hf h66
            refine R_aload_n dX10_readKind_75 rfl rfl ?_
            refine R_getR dX10_readKind_76 cl10 flX10_26 o_84 ff10_8 (fr10_8 _) a_87.1 ?_
            refine R_aload_n dX10_readKind_79 rfl rfl ?_
            refine R_getI (ki := 7) dX10_readKind_80 cl10 flX10_194 o_84 ff10_7 rfl rfl ?_
            refine R_iload_n dX10_readKind_83 rfl rfl ?_
            obtain ⟨hg1, hf⟩ := gdE hf
            obtain ⟨M84, hM84, hf⟩ := ltE hf
            refine R_iastore dX10_readKind_84 a_87 hg1.1 hg1.2 hM84 ?_
            refine R_aload_n dX10_readKind_85 rfl rfl ?_
            refine R_getR dX10_readKind_86 cl10 flX10_29 o_84 ff10_9 (fr10_9 _) a_88.1 ?_
            refine R_aload_n dX10_readKind_89 rfl rfl ?_
            refine R_getI (ki := 7) dX10_readKind_90 cl10 flX10_194 o_84 ff10_7 rfl rfl ?_
            refine R_iload_n dX10_readKind_93 rfl rfl ?_
            obtain ⟨hg2, hf⟩ := gdE hf
            obtain ⟨M94, hM94, hf⟩ := ltE hf
            refine R_iastore dX10_readKind_94 a_88 hg2.1 hg2.2 hM94 ?_
            refine R_aload_n dX10_readKind_95 rfl rfl ?_
            refine R_dupR dX10_readKind_96 ?_
            refine R_getI (ki := 7) dX10_readKind_97 cl10 flX10_194 o_84 ff10_7 rfl rfl ?_
            refine R_iconst dX10_readKind_100 (v := 1) rfl ?_
            refine R_iadd dX10_readKind_101 rfl ?_
            obtain ⟨M102, hM102, hf⟩ := ltE hf
            refine R_put (ki := 7) dX10_readKind_102 cl10 flX10_194 o_84 (Or.inl fz10_7) rfl hM102 ?_
            refine R_aload_n dX10_readKind_105 rfl rfl ?_
            obtain ⟨p106, hp106, hf⟩ := bdE hf
            refine R_callV (As := []) (st := []) dX10_readKind_106 (ct_X10_advance  _  hp106) mwX10_advance mvX10_advance mlX10_175 cl10 o_84 rfl rfl ⟨nle, nle, nle, nle⟩ nle rfl ?_
            refine R_iconst dX10_readKind_109 (v := 1) rfl ?_
            cases hf; exact E_zret dX10_readKind_110 rfl (by decide) rfl rfl
          · replace hf := iposE hf h66
            refine R_aload_n dX10_readKind_69 rfl rfl ?_
            refine R_iconst dX10_readKind_70 (v := 4) rfl ?_
            obtain ⟨p71, hp71, hf⟩ := bdE hf
            refine R_callV (As := [aI 4]) (st := []) dX10_readKind_71 (ct_X10_fails _ _  hp71) mwX10_fails mvX10_fails mlX10_172 cl10 o_84 rfl rfl ⟨nle, nle, nle, nle⟩ nle rfl ?_
            obtain ⟨hb, hf⟩ := gdE hf
            cases hf; exact E_zret dX10_readKind_74 rfl hb rfl rfl
        · replace hf := inegE hf h52
          refine R_aload_n dX10_readKind_55 rfl rfl ?_
          refine R_iconst dX10_readKind_56 (v := 3) rfl ?_
          obtain ⟨p57, hp57, hf⟩ := bdE hf
          refine R_callV (As := [aI 3]) (st := []) dX10_readKind_57 (ct_X10_fails _ _  hp57) mwX10_fails mvX10_fails mlX10_172 cl10 o_84 rfl rfl ⟨nle, nle, nle, nle⟩ nle rfl ?_
          obtain ⟨hb, hf⟩ := gdE hf
          cases hf; exact E_zret dX10_readKind_60 rfl hb rfl rfl
  · replace hf := inegE hf h5
    refine R_aload_n dX10_readKind_8 rfl rfl ?_
    refine R_iconst dX10_readKind_9 (v := 1) rfl ?_
    obtain ⟨p10, hp10, hf⟩ := bdE hf
    refine R_callV (As := [aI 1]) (st := []) dX10_readKind_10 (ct_X10_fails _ _  hp10) mwX10_fails mvX10_fails mlX10_172 cl10 o_84 rfl rfl ⟨nle, nle, nle, nle⟩ nle rfl ?_
    obtain ⟨hb, hf⟩ := gdE hf
    cases hf; exact E_zret dX10_readKind_13 rfl hb rfl rfl
/-! BracketHallModel.takesOne()Z -/
def f_X10_takesOne  (M : Mem) : Option (Int × Mem) :=
  if (M 84 20) = 4 then
    (f_X10_byteAt (M 84 18) M).bind fun p20 =>
    lt1 (up M 84 24 p20) fun M23 =>
    (f_X10_isTold (M23 84 24) M23).bind fun p33 =>
    if p33 = 0 then
      (f_X10_starts 3 1 M23).bind fun p44 =>
      if p44.1 = 0 ∨ p44.1 = 1 then
      some (p44.1, p44.2)
      else none
    else
      (f_X10_starts 3 0 M23).bind fun p44 =>
      if p44.1 = 0 ∨ p44.1 = 1 then
      some (p44.1, p44.2)
      else none
  else
    (f_X10_fails 1 M).bind fun p10 =>
    if p10.1 = 0 ∨ p10.1 = 1 then
    some (p10.1, p10.2)
    else none
set_option maxRecDepth 20000 in
theorem ct_X10_takesOne {G : Gl}  (M : Mem) {res : Int × Mem}  (hf : f_X10_takesOne  M = some res) : Ct G miX10_takesOne yX10_takesOne 5 [aR 84] M (some (aI res.1)) res.2 := by
  refine Ct.of (L := [some (aR 84)]) mwX10_takesOne rfl trivial nle ⟨rfl, trivial⟩ ?_
  unfold f_X10_takesOne at hf
  refine R_aload_n dX10_takesOne_0 rfl rfl ?_
  refine R_getI (ki := 20) dX10_takesOne_1 cl10 flX10_154 o_84 ff10_20 rfl rfl ?_
  refine R_iconst dX10_takesOne_4 (v := 4) rfl ?_
  refine R_icmp_eq dX10_takesOne_5 rfl (fun h5 => ?_) (fun h5 => ?_)
  · replace hf := iposE hf h5
    refine R_aload_n dX10_takesOne_14 rfl rfl ?_
    refine R_aload_n dX10_takesOne_15 rfl rfl ?_
    refine R_aload_n dX10_takesOne_16 rfl rfl ?_
    refine R_getI (ki := 18) dX10_takesOne_17 cl10 flX10_148 o_84 ff10_18 rfl rfl ?_
    obtain ⟨p20, hp20, hf⟩ := bdE hf
    refine R_callV (As := [aI (M 84 18)]) (st := [aR 84]) dX10_takesOne_20 (ct_X10_byteAt _ _  hp20) mwX10_byteAt mvX10_byteAt mlX10_144 cl10 o_84 rfl rfl ⟨nle, nle, nle, nle⟩ nle rfl ?_
    obtain ⟨M23, hM23, hf⟩ := ltE hf
    refine R_put (ki := 24) dX10_takesOne_23 cl10 flX10_178 o_84 (Or.inl fz10_24) rfl hM23 ?_
    refine R_aload_n dX10_takesOne_26 rfl rfl ?_
    refine R_iconst dX10_takesOne_27 (v := 3) rfl ?_
    refine R_aload_n dX10_takesOne_28 rfl rfl ?_
    refine R_aload_n dX10_takesOne_29 rfl rfl ?_
    refine R_getI (ki := 24) dX10_takesOne_30 cl10 flX10_178 o_84 ff10_24 rfl rfl ?_
    obtain ⟨p33, hp33, hf⟩ := bdE hf
    refine R_callV (As := [aI (M23 84 24)]) (st := [aI 3, aR 84]) dX10_takesOne_33 (ct_X10_isTold _ _  hp33) mwX10_isTold mvX10_isTold mlX10_197 cl10 o_84 rfl rfl ⟨nle, nle, nle, nle⟩ nle rfl ?_
    refine R_if_ne dX10_takesOne_36 rfl (fun h36 => ?_) (fun h36 => ?_)
    · replace hf := inegE hf h36
      refine R_iconst dX10_takesOne_43 (v := 0) rfl ?_
      obtain ⟨p44, hp44, hf⟩ := bdE hf
      refine R_callV (As := [aI 3, aI 0]) (st := []) dX10_takesOne_44 (ct_X10_starts _ _ _  hp44) mwX10_starts mvX10_starts mlX10_181 cl10 o_84 rfl rfl ⟨nle, nle, nle, nle⟩ nle rfl ?_
      obtain ⟨hb, hf⟩ := gdE hf
      cases hf; exact E_zret dX10_takesOne_47 rfl hb rfl rfl
    · replace hf := iposE hf h36
      refine R_iconst dX10_takesOne_39 (v := 1) rfl ?_
      refine R_goto dX10_takesOne_40 rfl ?_
      obtain ⟨p44, hp44, hf⟩ := bdE hf
      refine R_callV (As := [aI 3, aI 1]) (st := []) dX10_takesOne_44 (ct_X10_starts _ _ _  hp44) mwX10_starts mvX10_starts mlX10_181 cl10 o_84 rfl rfl ⟨nle, nle, nle, nle⟩ nle rfl ?_
      obtain ⟨hb, hf⟩ := gdE hf
      cases hf; exact E_zret dX10_takesOne_47 rfl hb rfl rfl
  · replace hf := inegE hf h5
    refine R_aload_n dX10_takesOne_8 rfl rfl ?_
    refine R_iconst dX10_takesOne_9 (v := 1) rfl ?_
    obtain ⟨p10, hp10, hf⟩ := bdE hf
    refine R_callV (As := [aI 1]) (st := []) dX10_takesOne_10 (ct_X10_fails _ _  hp10) mwX10_fails mvX10_fails mlX10_172 cl10 o_84 rfl rfl ⟨nle, nle, nle, nle⟩ nle rfl ?_
    obtain ⟨hb, hf⟩ := gdE hf
    cases hf; exact E_zret dX10_takesOne_13 rfl hb rfl rfl
/-! BracketHallModel.readQuotes()Z -/
def f_X10_readQuotes  (M : Mem) : Option (Int × Mem) :=
  if (M 84 10) = (-1) then
    (f_X10_starts 4 1 M).bind fun p15 =>
    if p15.1 = 0 then
      some (0, p15.2)
    else
      (f_X10_takesOne p15.2).bind fun p22 =>
      if p22.1 = 0 then
        some (0, p22.2)
      else
        lt1 (up p22.2 84 10 (p22.2 84 24)) fun M35 =>
        (f_X10_isWord 230 M35).bind fun p41 =>
        if p41 = 0 then
          some (1, M35)
        else
          (f_X10_advance M35).bind fun p48 =>
          (f_X10_takesOne p48).bind fun p52 =>
          if p52.1 = 0 then
            some (0, p52.2)
          else
            lt1 (up p52.2 84 11 (p52.2 84 24)) fun M65 =>
            some (1, M65)
  else
    (f_X10_starts 4 0 M).bind fun p15 =>
    if p15.1 = 0 then
      some (0, p15.2)
    else
      (f_X10_takesOne p15.2).bind fun p22 =>
      if p22.1 = 0 then
        some (0, p22.2)
      else
        lt1 (up p22.2 84 10 (p22.2 84 24)) fun M35 =>
        (f_X10_isWord 230 M35).bind fun p41 =>
        if p41 = 0 then
          some (1, M35)
        else
          (f_X10_advance M35).bind fun p48 =>
          (f_X10_takesOne p48).bind fun p52 =>
          if p52.1 = 0 then
            some (0, p52.2)
          else
            lt1 (up p52.2 84 11 (p52.2 84 24)) fun M65 =>
            some (1, M65)
set_option maxRecDepth 20000 in
theorem ct_X10_readQuotes {G : Gl}  (M : Mem) {res : Int × Mem}  (hf : f_X10_readQuotes  M = some res) : Ct G miX10_readQuotes yX10_readQuotes 6 [aR 84] M (some (aI res.1)) res.2 := by
  refine Ct.of (L := [some (aR 84)]) mwX10_readQuotes rfl trivial nle ⟨rfl, trivial⟩ ?_
  unfold f_X10_readQuotes at hf
  refine R_aload_n dX10_readQuotes_0 rfl rfl ?_
  refine R_iconst dX10_readQuotes_1 (v := 4) rfl ?_
  refine R_aload_n dX10_readQuotes_2 rfl rfl ?_
  refine R_getI (ki := 10) dX10_readQuotes_3 cl10 flX10_185 o_84 ff10_10 rfl rfl ?_
  refine R_iconst dX10_readQuotes_6 (v := (-1)) rfl ?_
  refine R_icmp_ne dX10_readQuotes_7 rfl (fun h7 => ?_) (fun h7 => ?_)
  · replace hf := inegE hf h7
    refine R_iconst dX10_readQuotes_14 (v := 0) rfl ?_
    obtain ⟨p15, hp15, hf⟩ := bdE hf
    refine R_callV (As := [aI 4, aI 0]) (st := []) dX10_readQuotes_15 (ct_X10_starts _ _ _  hp15) mwX10_starts mvX10_starts mlX10_181 cl10 o_84 rfl rfl ⟨nle, nle, nle, nle⟩ nle rfl ?_
    refine R_if_eq dX10_readQuotes_18 rfl (fun h18 => ?_) (fun h18 => ?_)
    · replace hf := iposE hf h18
      refine R_iconst dX10_readQuotes_28 (v := 0) rfl ?_
      cases hf; exact E_zret dX10_readQuotes_29 rfl (by decide) rfl rfl
    · replace hf := inegE hf h18
      refine R_aload_n dX10_readQuotes_21 rfl rfl ?_
      obtain ⟨p22, hp22, hf⟩ := bdE hf
      refine R_callV (As := []) (st := []) dX10_readQuotes_22 (ct_X10_takesOne  _  hp22) mwX10_takesOne mvX10_takesOne mlX10_200 cl10 o_84 rfl rfl ⟨nle, nle, nle, nle⟩ nle rfl ?_
      refine R_if_ne dX10_readQuotes_25 rfl (fun h25 => ?_) (fun h25 => ?_)
      · replace hf := inegE hf h25
        refine R_aload_n dX10_readQuotes_30 rfl rfl ?_
        refine R_aload_n dX10_readQuotes_31 rfl rfl ?_
        refine R_getI (ki := 24) dX10_readQuotes_32 cl10 flX10_178 o_84 ff10_24 rfl rfl ?_
        obtain ⟨M35, hM35, hf⟩ := ltE hf
        refine R_put (ki := 10) dX10_readQuotes_35 cl10 flX10_185 o_84 (Or.inl fz10_10) rfl hM35 ?_
        refine R_aload_n dX10_readQuotes_38 rfl rfl ?_
        refine R_ldcS dX10_readQuotes_39 (j := 30) rfl rfl ?_
        obtain ⟨p41, hp41, hf⟩ := bdE hf
        refine R_callV (As := [aR 230]) (st := []) dX10_readQuotes_41 (ct_X10_isWord _ _ s_30 hp41) mwX10_isWord mvX10_isWord mlX10_205 cl10 o_84 rfl rfl ⟨nle, nle, nle, nle⟩ nle rfl ?_
        refine R_if_eq dX10_readQuotes_44 rfl (fun h44 => ?_) (fun h44 => ?_)
        · replace hf := iposE hf h44
          refine R_iconst dX10_readQuotes_68 (v := 1) rfl ?_
          cases hf; exact E_zret dX10_readQuotes_69 rfl (by decide) rfl rfl
        · replace hf := inegE hf h44
          refine R_aload_n dX10_readQuotes_47 rfl rfl ?_
          obtain ⟨p48, hp48, hf⟩ := bdE hf
          refine R_callV (As := []) (st := []) dX10_readQuotes_48 (ct_X10_advance  _  hp48) mwX10_advance mvX10_advance mlX10_175 cl10 o_84 rfl rfl ⟨nle, nle, nle, nle⟩ nle rfl ?_
          refine R_aload_n dX10_readQuotes_51 rfl rfl ?_
          obtain ⟨p52, hp52, hf⟩ := bdE hf
          refine R_callV (As := []) (st := []) dX10_readQuotes_52 (ct_X10_takesOne  _  hp52) mwX10_takesOne mvX10_takesOne mlX10_200 cl10 o_84 rfl rfl ⟨nle, nle, nle, nle⟩ nle rfl ?_
          refine R_if_ne dX10_readQuotes_55 rfl (fun h55 => ?_) (fun h55 => ?_)
          · replace hf := inegE hf h55
            refine R_aload_n dX10_readQuotes_60 rfl rfl ?_
            refine R_aload_n dX10_readQuotes_61 rfl rfl ?_
            refine R_getI (ki := 24) dX10_readQuotes_62 cl10 flX10_178 o_84 ff10_24 rfl rfl ?_
            obtain ⟨M65, hM65, hf⟩ := ltE hf
            refine R_put (ki := 11) dX10_readQuotes_65 cl10 flX10_188 o_84 (Or.inl fz10_11) rfl hM65 ?_
            refine R_iconst dX10_readQuotes_68 (v := 1) rfl ?_
            cases hf; exact E_zret dX10_readQuotes_69 rfl (by decide) rfl rfl
          · replace hf := iposE hf h55
            refine R_iconst dX10_readQuotes_58 (v := 0) rfl ?_
            cases hf; exact E_zret dX10_readQuotes_59 rfl (by decide) rfl rfl
      · replace hf := iposE hf h25
        refine R_iconst dX10_readQuotes_28 (v := 0) rfl ?_
        cases hf; exact E_zret dX10_readQuotes_29 rfl (by decide) rfl rfl
  · replace hf := iposE hf h7
    refine R_iconst dX10_readQuotes_10 (v := 1) rfl ?_
    refine R_goto dX10_readQuotes_11 rfl ?_
    obtain ⟨p15, hp15, hf⟩ := bdE hf
    refine R_callV (As := [aI 4, aI 1]) (st := []) dX10_readQuotes_15 (ct_X10_starts _ _ _  hp15) mwX10_starts mvX10_starts mlX10_181 cl10 o_84 rfl rfl ⟨nle, nle, nle, nle⟩ nle rfl ?_
    refine R_if_eq dX10_readQuotes_18 rfl (fun h18 => ?_) (fun h18 => ?_)
    · replace hf := iposE hf h18
      refine R_iconst dX10_readQuotes_28 (v := 0) rfl ?_
      cases hf; exact E_zret dX10_readQuotes_29 rfl (by decide) rfl rfl
    · replace hf := inegE hf h18
      refine R_aload_n dX10_readQuotes_21 rfl rfl ?_
      obtain ⟨p22, hp22, hf⟩ := bdE hf
      refine R_callV (As := []) (st := []) dX10_readQuotes_22 (ct_X10_takesOne  _  hp22) mwX10_takesOne mvX10_takesOne mlX10_200 cl10 o_84 rfl rfl ⟨nle, nle, nle, nle⟩ nle rfl ?_
      refine R_if_ne dX10_readQuotes_25 rfl (fun h25 => ?_) (fun h25 => ?_)
      · replace hf := inegE hf h25
        refine R_aload_n dX10_readQuotes_30 rfl rfl ?_
        refine R_aload_n dX10_readQuotes_31 rfl rfl ?_
        refine R_getI (ki := 24) dX10_readQuotes_32 cl10 flX10_178 o_84 ff10_24 rfl rfl ?_
        obtain ⟨M35, hM35, hf⟩ := ltE hf
        refine R_put (ki := 10) dX10_readQuotes_35 cl10 flX10_185 o_84 (Or.inl fz10_10) rfl hM35 ?_
        refine R_aload_n dX10_readQuotes_38 rfl rfl ?_
        refine R_ldcS dX10_readQuotes_39 (j := 30) rfl rfl ?_
        obtain ⟨p41, hp41, hf⟩ := bdE hf
        refine R_callV (As := [aR 230]) (st := []) dX10_readQuotes_41 (ct_X10_isWord _ _ s_30 hp41) mwX10_isWord mvX10_isWord mlX10_205 cl10 o_84 rfl rfl ⟨nle, nle, nle, nle⟩ nle rfl ?_
        refine R_if_eq dX10_readQuotes_44 rfl (fun h44 => ?_) (fun h44 => ?_)
        · replace hf := iposE hf h44
          refine R_iconst dX10_readQuotes_68 (v := 1) rfl ?_
          cases hf; exact E_zret dX10_readQuotes_69 rfl (by decide) rfl rfl
        · replace hf := inegE hf h44
          refine R_aload_n dX10_readQuotes_47 rfl rfl ?_
          obtain ⟨p48, hp48, hf⟩ := bdE hf
          refine R_callV (As := []) (st := []) dX10_readQuotes_48 (ct_X10_advance  _  hp48) mwX10_advance mvX10_advance mlX10_175 cl10 o_84 rfl rfl ⟨nle, nle, nle, nle⟩ nle rfl ?_
          refine R_aload_n dX10_readQuotes_51 rfl rfl ?_
          obtain ⟨p52, hp52, hf⟩ := bdE hf
          refine R_callV (As := []) (st := []) dX10_readQuotes_52 (ct_X10_takesOne  _  hp52) mwX10_takesOne mvX10_takesOne mlX10_200 cl10 o_84 rfl rfl ⟨nle, nle, nle, nle⟩ nle rfl ?_
          refine R_if_ne dX10_readQuotes_55 rfl (fun h55 => ?_) (fun h55 => ?_)
          · replace hf := inegE hf h55
            refine R_aload_n dX10_readQuotes_60 rfl rfl ?_
            refine R_aload_n dX10_readQuotes_61 rfl rfl ?_
            refine R_getI (ki := 24) dX10_readQuotes_62 cl10 flX10_178 o_84 ff10_24 rfl rfl ?_
            obtain ⟨M65, hM65, hf⟩ := ltE hf
            refine R_put (ki := 11) dX10_readQuotes_65 cl10 flX10_188 o_84 (Or.inl fz10_11) rfl hM65 ?_
            refine R_iconst dX10_readQuotes_68 (v := 1) rfl ?_
            cases hf; exact E_zret dX10_readQuotes_69 rfl (by decide) rfl rfl
          · replace hf := iposE hf h55
            refine R_iconst dX10_readQuotes_58 (v := 0) rfl ?_
            cases hf; exact E_zret dX10_readQuotes_59 rfl (by decide) rfl rfl
      · replace hf := iposE hf h25
        refine R_iconst dX10_readQuotes_28 (v := 0) rfl ?_
        cases hf; exact E_zret dX10_readQuotes_29 rfl (by decide) rfl rfl
/-! BracketHallModel.readNotes()Z -/
def f_X10_readNotes  (M : Mem) : Option (Int × Mem) :=
  if (M 84 12) = (-1) then
    (f_X10_starts 4 1 M).bind fun p15 =>
    if p15.1 = 0 then
      some (0, p15.2)
    else
      (f_X10_takesOne p15.2).bind fun p22 =>
      if p22.1 = 0 then
        some (0, p22.2)
      else
        lt1 (up p22.2 84 12 (p22.2 84 24)) fun M35 =>
        some (1, M35)
  else
    (f_X10_starts 4 0 M).bind fun p15 =>
    if p15.1 = 0 then
      some (0, p15.2)
    else
      (f_X10_takesOne p15.2).bind fun p22 =>
      if p22.1 = 0 then
        some (0, p22.2)
      else
        lt1 (up p22.2 84 12 (p22.2 84 24)) fun M35 =>
        some (1, M35)
set_option maxRecDepth 20000 in
theorem ct_X10_readNotes {G : Gl}  (M : Mem) {res : Int × Mem}  (hf : f_X10_readNotes  M = some res) : Ct G miX10_readNotes yX10_readNotes 6 [aR 84] M (some (aI res.1)) res.2 := by
  refine Ct.of (L := [some (aR 84)]) mwX10_readNotes rfl trivial nle ⟨rfl, trivial⟩ ?_
  unfold f_X10_readNotes at hf
  refine R_aload_n dX10_readNotes_0 rfl rfl ?_
  refine R_iconst dX10_readNotes_1 (v := 4) rfl ?_
  refine R_aload_n dX10_readNotes_2 rfl rfl ?_
  refine R_getI (ki := 12) dX10_readNotes_3 cl10 flX10_191 o_84 ff10_12 rfl rfl ?_
  refine R_iconst dX10_readNotes_6 (v := (-1)) rfl ?_
  refine R_icmp_ne dX10_readNotes_7 rfl (fun h7 => ?_) (fun h7 => ?_)
  · replace hf := inegE hf h7
    refine R_iconst dX10_readNotes_14 (v := 0) rfl ?_
    obtain ⟨p15, hp15, hf⟩ := bdE hf
    refine R_callV (As := [aI 4, aI 0]) (st := []) dX10_readNotes_15 (ct_X10_starts _ _ _  hp15) mwX10_starts mvX10_starts mlX10_181 cl10 o_84 rfl rfl ⟨nle, nle, nle, nle⟩ nle rfl ?_
    refine R_if_eq dX10_readNotes_18 rfl (fun h18 => ?_) (fun h18 => ?_)
    · replace hf := iposE hf h18
      refine R_iconst dX10_readNotes_28 (v := 0) rfl ?_
      cases hf; exact E_zret dX10_readNotes_29 rfl (by decide) rfl rfl
    · replace hf := inegE hf h18
      refine R_aload_n dX10_readNotes_21 rfl rfl ?_
      obtain ⟨p22, hp22, hf⟩ := bdE hf
      refine R_callV (As := []) (st := []) dX10_readNotes_22 (ct_X10_takesOne  _  hp22) mwX10_takesOne mvX10_takesOne mlX10_200 cl10 o_84 rfl rfl ⟨nle, nle, nle, nle⟩ nle rfl ?_
      refine R_if_ne dX10_readNotes_25 rfl (fun h25 => ?_) (fun h25 => ?_)
      · replace hf := inegE hf h25
        refine R_aload_n dX10_readNotes_30 rfl rfl ?_
        refine R_aload_n dX10_readNotes_31 rfl rfl ?_
        refine R_getI (ki := 24) dX10_readNotes_32 cl10 flX10_178 o_84 ff10_24 rfl rfl ?_
        obtain ⟨M35, hM35, hf⟩ := ltE hf
        refine R_put (ki := 12) dX10_readNotes_35 cl10 flX10_191 o_84 (Or.inl fz10_12) rfl hM35 ?_
        refine R_iconst dX10_readNotes_38 (v := 1) rfl ?_
        cases hf; exact E_zret dX10_readNotes_39 rfl (by decide) rfl rfl
      · replace hf := iposE hf h25
        refine R_iconst dX10_readNotes_28 (v := 0) rfl ?_
        cases hf; exact E_zret dX10_readNotes_29 rfl (by decide) rfl rfl
  · replace hf := iposE hf h7
    refine R_iconst dX10_readNotes_10 (v := 1) rfl ?_
    refine R_goto dX10_readNotes_11 rfl ?_
    obtain ⟨p15, hp15, hf⟩ := bdE hf
    refine R_callV (As := [aI 4, aI 1]) (st := []) dX10_readNotes_15 (ct_X10_starts _ _ _  hp15) mwX10_starts mvX10_starts mlX10_181 cl10 o_84 rfl rfl ⟨nle, nle, nle, nle⟩ nle rfl ?_
    refine R_if_eq dX10_readNotes_18 rfl (fun h18 => ?_) (fun h18 => ?_)
    · replace hf := iposE hf h18
      refine R_iconst dX10_readNotes_28 (v := 0) rfl ?_
      cases hf; exact E_zret dX10_readNotes_29 rfl (by decide) rfl rfl
    · replace hf := inegE hf h18
      refine R_aload_n dX10_readNotes_21 rfl rfl ?_
      obtain ⟨p22, hp22, hf⟩ := bdE hf
      refine R_callV (As := []) (st := []) dX10_readNotes_22 (ct_X10_takesOne  _  hp22) mwX10_takesOne mvX10_takesOne mlX10_200 cl10 o_84 rfl rfl ⟨nle, nle, nle, nle⟩ nle rfl ?_
      refine R_if_ne dX10_readNotes_25 rfl (fun h25 => ?_) (fun h25 => ?_)
      · replace hf := inegE hf h25
        refine R_aload_n dX10_readNotes_30 rfl rfl ?_
        refine R_aload_n dX10_readNotes_31 rfl rfl ?_
        refine R_getI (ki := 24) dX10_readNotes_32 cl10 flX10_178 o_84 ff10_24 rfl rfl ?_
        obtain ⟨M35, hM35, hf⟩ := ltE hf
        refine R_put (ki := 12) dX10_readNotes_35 cl10 flX10_191 o_84 (Or.inl fz10_12) rfl hM35 ?_
        refine R_iconst dX10_readNotes_38 (v := 1) rfl ?_
        cases hf; exact E_zret dX10_readNotes_39 rfl (by decide) rfl rfl
      · replace hf := iposE hf h25
        refine R_iconst dX10_readNotes_28 (v := 0) rfl ?_
        cases hf; exact E_zret dX10_readNotes_29 rfl (by decide) rfl rfl
/-! BracketHallModel.takesInto(III)Z -/
def f_X10_takesInto (v1 : Int) (v2 : Int) (v3 : Int) (M : Mem) : Option (Int × Mem) :=
  (f_X10_takes v2 v3 M).bind fun p3 =>
  if p3.1 = 0 then
    some (0, p3.2)
  else
    if (0 : Int) ≤ v1 ∧ v1 < 254 then
    lt1 (up p3.2 89 v1 (p3.2 84 24)) fun M20 =>
    some (1, M20)
    else none
set_option maxRecDepth 20000 in
theorem ct_X10_takesInto {G : Gl} (v1 : Int) (v2 : Int) (v3 : Int) (M : Mem) {res : Int × Mem}  (hf : f_X10_takesInto v1 v2 v3 M = some res) : Ct G miX10_takesInto yX10_takesInto 6 [aR 84, aI v1, aI v2, aI v3] M (some (aI res.1)) res.2 := by
  refine Ct.of (L := [some (aR 84), some (aI v1), some (aI v2), some (aI v3)]) mwX10_takesInto rfl trivial nle ⟨rfl, rfl, rfl, rfl, trivial⟩ ?_
  unfold f_X10_takesInto at hf
  refine R_aload_n dX10_takesInto_0 rfl rfl ?_
  refine R_iload_n dX10_takesInto_1 rfl rfl ?_
  refine R_iload_n dX10_takesInto_2 rfl rfl ?_
  obtain ⟨p3, hp3, hf⟩ := bdE hf
  refine R_callV (As := [aI v2, aI v3]) (st := []) dX10_takesInto_3 (ct_X10_takes _ _ _  hp3) mwX10_takes mvX10_takes mlX10_209 cl10 o_84 rfl rfl ⟨nle, nle, nle, nle⟩ nle rfl ?_
  refine R_if_ne dX10_takesInto_6 rfl (fun h6 => ?_) (fun h6 => ?_)
  · replace hf := inegE hf h6
    refine R_aload_n dX10_takesInto_11 rfl rfl ?_
    refine R_getR dX10_takesInto_12 cl10 flX10_32 o_84 ff10_13 (fr10_13 _) a_89.1 ?_
    refine R_iload_n dX10_takesInto_15 rfl rfl ?_
    refine R_aload_n dX10_takesInto_16 rfl rfl ?_
    refine R_getI (ki := 24) dX10_takesInto_17 cl10 flX10_178 o_84 ff10_24 rfl rfl ?_
    obtain ⟨hg1, hf⟩ := gdE hf
    obtain ⟨M20, hM20, hf⟩ := ltE hf
    refine R_iastore dX10_takesInto_20 a_89 hg1.1 hg1.2 hM20 ?_
    refine R_iconst dX10_takesInto_21 (v := 1) rfl ?_
    cases hf; exact E_zret dX10_takesInto_22 rfl (by decide) rfl rfl
  · replace hf := iposE hf h6
    refine R_iconst dX10_takesInto_9 (v := 0) rfl ?_
    cases hf; exact E_zret dX10_takesInto_10 rfl (by decide) rfl rfl
/-! BracketHallModel.readStatement()Z -/
def f_X10_readStatement  (M : Mem) : Option (Int × Mem) :=
  (f_X10_isWord 229 M).bind fun p3 =>
  if p3 = 0 then
    (f_X10_isWord 231 M).bind fun p17 =>
    if p17 = 0 then
      (f_X10_isWord 232 M).bind fun p31 =>
      if p31 = 0 then
        (f_X10_isWord 233 M).bind fun p54 =>
        if p54 = 0 then
          (f_X10_fails 1 M).bind fun p108 =>
          if p108.1 = 0 ∨ p108.1 = 1 then
          some (p108.1, p108.2)
          else none
        else
          (f_X10_advance M).bind fun p61 =>
          (f_X10_takesInto 11 1 99 p61).bind fun p70 =>
          if p70.1 = 0 then
            some (0, p70.2)
          else
            (f_X10_takesInto 12 1 99 p70.2).bind fun p82 =>
            if p82.1 = 0 then
              some (0, p82.2)
            else
              (f_X10_takesInto 13 1 99 p82.2).bind fun p94 =>
              if p94.1 = 0 then
                some (0, p94.2)
              else
                some (1, p94.2)
      else
        (f_X10_advance M).bind fun p38 =>
        (f_X10_takesInto 10 1 9 p38).bind fun p47 =>
        if p47.1 = 0 ∨ p47.1 = 1 then
        some (p47.1, p47.2)
        else none
    else
      (f_X10_readNotes M).bind fun p24 =>
      if p24.1 = 0 ∨ p24.1 = 1 then
      some (p24.1, p24.2)
      else none
  else
    (f_X10_readQuotes M).bind fun p10 =>
    if p10.1 = 0 ∨ p10.1 = 1 then
    some (p10.1, p10.2)
    else none
set_option maxRecDepth 20000 in
theorem ct_X10_readStatement {G : Gl}  (M : Mem) {res : Int × Mem}  (hf : f_X10_readStatement  M = some res) : Ct G miX10_readStatement yX10_readStatement 7 [aR 84] M (some (aI res.1)) res.2 := by
  refine Ct.of (L := [some (aR 84)]) mwX10_readStatement rfl trivial nle ⟨rfl, trivial⟩ ?_
  unfold f_X10_readStatement at hf
  refine R_aload_n dX10_readStatement_0 rfl rfl ?_
  refine R_ldcS dX10_readStatement_1 (j := 29) rfl rfl ?_
  obtain ⟨p3, hp3, hf⟩ := bdE hf
  refine R_callV (As := [aR 229]) (st := []) dX10_readStatement_3 (ct_X10_isWord _ _ s_29 hp3) mwX10_isWord mvX10_isWord mlX10_205 cl10 o_84 rfl rfl ⟨nle, nle, nle, nle⟩ nle rfl ?_
  refine R_if_eq dX10_readStatement_6 rfl (fun h6 => ?_) (fun h6 => ?_)
  · replace hf := iposE hf h6
    refine R_aload_n dX10_readStatement_14 rfl rfl ?_
    refine R_ldcS dX10_readStatement_15 (j := 31) rfl rfl ?_
    obtain ⟨p17, hp17, hf⟩ := bdE hf
    refine R_callV (As := [aR 231]) (st := []) dX10_readStatement_17 (ct_X10_isWord _ _ s_31 hp17) mwX10_isWord mvX10_isWord mlX10_205 cl10 o_84 rfl rfl ⟨nle, nle, nle, nle⟩ nle rfl ?_
    refine R_if_eq dX10_readStatement_20 rfl (fun h20 => ?_) (fun h20 => ?_)
    · replace hf := iposE hf h20
      refine R_aload_n dX10_readStatement_28 rfl rfl ?_
      refine R_ldcS dX10_readStatement_29 (j := 32) rfl rfl ?_
      obtain ⟨p31, hp31, hf⟩ := bdE hf
      refine R_callV (As := [aR 232]) (st := []) dX10_readStatement_31 (ct_X10_isWord _ _ s_32 hp31) mwX10_isWord mvX10_isWord mlX10_205 cl10 o_84 rfl rfl ⟨nle, nle, nle, nle⟩ nle rfl ?_
      refine R_if_eq dX10_readStatement_34 rfl (fun h34 => ?_) (fun h34 => ?_)
      · replace hf := iposE hf h34
        refine R_aload_n dX10_readStatement_51 rfl rfl ?_
        refine R_ldcS dX10_readStatement_52 (j := 33) rfl rfl ?_
        obtain ⟨p54, hp54, hf⟩ := bdE hf
        refine R_callV (As := [aR 233]) (st := []) dX10_readStatement_54 (ct_X10_isWord _ _ s_33 hp54) mwX10_isWord mvX10_isWord mlX10_205 cl10 o_84 rfl rfl ⟨nle, nle, nle, nle⟩ nle rfl ?_
        refine R_if_eq dX10_readStatement_57 rfl (fun h57 => ?_) (fun h57 => ?_)
        · replace hf := iposE hf h57
          refine R_aload_n dX10_readStatement_106 rfl rfl ?_
          refine R_iconst dX10_readStatement_107 (v := 1) rfl ?_
          obtain ⟨p108, hp108, hf⟩ := bdE hf
          refine R_callV (As := [aI 1]) (st := []) dX10_readStatement_108 (ct_X10_fails _ _  hp108) mwX10_fails mvX10_fails mlX10_172 cl10 o_84 rfl rfl ⟨nle, nle, nle, nle⟩ nle rfl ?_
          obtain ⟨hb, hf⟩ := gdE hf
          cases hf; exact E_zret dX10_readStatement_111 rfl hb rfl rfl
        · replace hf := inegE hf h57
          refine R_aload_n dX10_readStatement_60 rfl rfl ?_
          obtain ⟨p61, hp61, hf⟩ := bdE hf
          refine R_callV (As := []) (st := []) dX10_readStatement_61 (ct_X10_advance  _  hp61) mwX10_advance mvX10_advance mlX10_175 cl10 o_84 rfl rfl ⟨nle, nle, nle, nle⟩ nle rfl ?_
          refine R_aload_n dX10_readStatement_64 rfl rfl ?_
          refine R_bipush dX10_readStatement_65 (v := 11) rfl ?_
          refine R_iconst dX10_readStatement_67 (v := 1) rfl ?_
          refine R_bipush dX10_readStatement_68 (v := 99) rfl ?_
          obtain ⟨p70, hp70, hf⟩ := bdE hf
          refine R_callV (As := [aI 11, aI 1, aI 99]) (st := []) dX10_readStatement_70 (ct_X10_takesInto _ _ _ _  hp70) mwX10_takesInto mvX10_takesInto mlX10_223 cl10 o_84 rfl rfl ⟨nle, nle, nle, nle⟩ nle rfl ?_
          refine R_if_eq dX10_readStatement_73 rfl (fun h73 => ?_) (fun h73 => ?_)
          · replace hf := iposE hf h73
            refine R_iconst dX10_readStatement_104 (v := 0) rfl ?_
            cases hf; exact E_zret dX10_readStatement_105 rfl (by decide) rfl rfl
          · replace hf := inegE hf h73
            refine R_aload_n dX10_readStatement_76 rfl rfl ?_
            refine R_bipush dX10_readStatement_77 (v := 12) rfl ?_
            refine R_iconst dX10_readStatement_79 (v := 1) rfl ?_
            refine R_bipush dX10_readStatement_80 (v := 99) rfl ?_
            obtain ⟨p82, hp82, hf⟩ := bdE hf
            refine R_callV (As := [aI 12, aI 1, aI 99]) (st := []) dX10_readStatement_82 (ct_X10_takesInto _ _ _ _  hp82) mwX10_takesInto mvX10_takesInto mlX10_223 cl10 o_84 rfl rfl ⟨nle, nle, nle, nle⟩ nle rfl ?_
            refine R_if_eq dX10_readStatement_85 rfl (fun h85 => ?_) (fun h85 => ?_)
            · replace hf := iposE hf h85
              refine R_iconst dX10_readStatement_104 (v := 0) rfl ?_
              cases hf; exact E_zret dX10_readStatement_105 rfl (by decide) rfl rfl
            · replace hf := inegE hf h85
              refine R_aload_n dX10_readStatement_88 rfl rfl ?_
              refine R_bipush dX10_readStatement_89 (v := 13) rfl ?_
              refine R_iconst dX10_readStatement_91 (v := 1) rfl ?_
              refine R_bipush dX10_readStatement_92 (v := 99) rfl ?_
              obtain ⟨p94, hp94, hf⟩ := bdE hf
              refine R_callV (As := [aI 13, aI 1, aI 99]) (st := []) dX10_readStatement_94 (ct_X10_takesInto _ _ _ _  hp94) mwX10_takesInto mvX10_takesInto mlX10_223 cl10 o_84 rfl rfl ⟨nle, nle, nle, nle⟩ nle rfl ?_
              refine R_if_eq dX10_readStatement_97 rfl (fun h97 => ?_) (fun h97 => ?_)
              · replace hf := iposE hf h97
                refine R_iconst dX10_readStatement_104 (v := 0) rfl ?_
                cases hf; exact E_zret dX10_readStatement_105 rfl (by decide) rfl rfl
              · replace hf := inegE hf h97
                refine R_iconst dX10_readStatement_100 (v := 1) rfl ?_
                refine R_goto dX10_readStatement_101 rfl ?_
                cases hf; exact E_zret dX10_readStatement_105 rfl (by decide) rfl rfl
      · replace hf := inegE hf h34
        refine R_aload_n dX10_readStatement_37 rfl rfl ?_
        obtain ⟨p38, hp38, hf⟩ := bdE hf
        refine R_callV (As := []) (st := []) dX10_readStatement_38 (ct_X10_advance  _  hp38) mwX10_advance mvX10_advance mlX10_175 cl10 o_84 rfl rfl ⟨nle, nle, nle, nle⟩ nle rfl ?_
        refine R_aload_n dX10_readStatement_41 rfl rfl ?_
        refine R_bipush dX10_readStatement_42 (v := 10) rfl ?_
        refine R_iconst dX10_readStatement_44 (v := 1) rfl ?_
        refine R_bipush dX10_readStatement_45 (v := 9) rfl ?_
        obtain ⟨p47, hp47, hf⟩ := bdE hf
        refine R_callV (As := [aI 10, aI 1, aI 9]) (st := []) dX10_readStatement_47 (ct_X10_takesInto _ _ _ _  hp47) mwX10_takesInto mvX10_takesInto mlX10_223 cl10 o_84 rfl rfl ⟨nle, nle, nle, nle⟩ nle rfl ?_
        obtain ⟨hb, hf⟩ := gdE hf
        cases hf; exact E_zret dX10_readStatement_50 rfl hb rfl rfl
    · replace hf := inegE hf h20
      refine R_aload_n dX10_readStatement_23 rfl rfl ?_
      obtain ⟨p24, hp24, hf⟩ := bdE hf
      refine R_callV (As := []) (st := []) dX10_readStatement_24 (ct_X10_readNotes  _  hp24) mwX10_readNotes mvX10_readNotes mlX10_218 cl10 o_84 rfl rfl ⟨nle, nle, nle, nle⟩ nle rfl ?_
      obtain ⟨hb, hf⟩ := gdE hf
      cases hf; exact E_zret dX10_readStatement_27 rfl hb rfl rfl
  · replace hf := inegE hf h6
    refine R_aload_n dX10_readStatement_9 rfl rfl ?_
    obtain ⟨p10, hp10, hf⟩ := bdE hf
    refine R_callV (As := []) (st := []) dX10_readStatement_10 (ct_X10_readQuotes  _  hp10) mwX10_readQuotes mvX10_readQuotes mlX10_214 cl10 o_84 rfl rfl ⟨nle, nle, nle, nle⟩ nle rfl ?_
    obtain ⟨hb, hf⟩ := gdE hf
    cases hf; exact E_zret dX10_readStatement_13 rfl hb rfl rfl
/-! BracketHallModel.copies([II[II)V -/
def f_X10_copies_L3 : Nat → Nat → Int → Nat → Int → Int → Mem → Option (Mem)
  | 0, _, _, _, _, _, _ => none
  | n + 1, o0, v1, o2, v3, v4, M =>
    if 254 ≤ v4 then
      some M
    else
      if (0 : Int) ≤ w32 (v1 + v4) ∧ w32 (v1 + v4) < alen o0 then
      if (0 : Int) ≤ w32 (v3 + v4) ∧ w32 (v3 + v4) < alen o2 then
      lt1 (up M o2 (w32 (v3 + v4)) (M o0 (w32 (v1 + v4)))) fun M22 =>
      lt1 (w32 (v4 + 1)) fun v4_23 =>
      f_X10_copies_L3 n o0 v1 o2 v3 v4_23 M22
      else none
      else none
def f_X10_copies (o0 : Nat) (v1 : Int) (o2 : Nat) (v3 : Int) (M : Mem) : Option (Mem) :=
  f_X10_copies_L3 4096 o0 v1 o2 v3 0 M
set_option maxRecDepth 20000 in
theorem rn_X10_copies_L3 {G : Gl} : ∀ (n : Nat) (o0 : Nat) (v1 : Int) (o2 : Nat) (v3 : Int) (v4 : Int) (M : Mem) (res : Mem), isI 20 o0 → isI 20 o2 → f_X10_copies_L3 n o0 v1 o2 v3 v4 M = some res → Run G false (rmD 0 0 0) miX10_copies (ZP G none res) 0 0 3 [some (aR o0), some (aI v1), some (aR o2), some (aI v3), some (aI v4)] [] M := by
  intro n
  induction n with
  | zero => intro o0 v1 o2 v3 v4 M res ho0 ho2 hf; cases hf
  | succ n ih =>
    intro o0 v1 o2 v3 v4 M res ho0 ho2 hf
    rw [f_X10_copies_L3] at hf
    refine R_iload dX10_copies_3 rfl ?_
    refine R_sipush dX10_copies_5 (v := 254) rfl ?_
    refine R_icmp_ge dX10_copies_8 rfl (fun h8 => ?_) (fun h8 => ?_)
    · replace hf := iposE hf h8
      cases hf; exact E_vret dX10_copies_29 rfl rfl rfl
    · replace hf := inegE hf h8
      refine R_aload_n dX10_copies_11 rfl rfl ?_
      refine R_iload_n dX10_copies_12 rfl rfl ?_
      refine R_iload dX10_copies_13 rfl ?_
      refine R_iadd dX10_copies_15 rfl ?_
      refine R_aload_n dX10_copies_16 rfl rfl ?_
      refine R_iload_n dX10_copies_17 rfl rfl ?_
      refine R_iload dX10_copies_18 rfl ?_
      refine R_iadd dX10_copies_20 rfl ?_
      obtain ⟨hg1, hf⟩ := gdE hf
      refine R_iaload dX10_copies_21 ho0.a hg1.1 hg1.2 rfl ?_
      obtain ⟨hg2, hf⟩ := gdE hf
      obtain ⟨M22, hM22, hf⟩ := ltE hf
      refine R_iastore dX10_copies_22 ho2.a hg2.1 hg2.2 hM22 ?_
      obtain ⟨v4_23, hv4_23, hf⟩ := ltE hf
      refine R_iinc dX10_copies_23 rfl rfl hv4_23 (by decide) rfl ?_
      refine R_goto dX10_copies_26 rfl ?_
      exact R_subk (ih _ _ _ _ _ _ _ ho0 ho2 hf) ⟨rfl, rfl, rfl, rfl, rfl, trivial⟩
set_option maxRecDepth 20000 in
theorem ct_X10_copies {G : Gl} (o0 : Nat) (v1 : Int) (o2 : Nat) (v3 : Int) (M : Mem) {res : Mem} (ho0 : isI 20 o0) (ho2 : isI 20 o2) (hf : f_X10_copies o0 v1 o2 v3 M = some res) : Ct G miX10_copies yX10_copies 0 [aR o0, aI v1, aR o2, aI v3] M none res := by
  refine Ct.of (L := [some (aR o0), some (aI v1), some (aR o2), some (aI v3), none]) mwX10_copies rfl trivial nle ⟨rfl, rfl, rfl, rfl, trivial⟩ ?_
  unfold f_X10_copies at hf
  refine R_iconst dX10_copies_0 (v := 0) rfl ?_
  refine R_istore dX10_copies_1 (by decide) rfl rfl ?_
  exact R_subk (rn_X10_copies_L3 4096 _ _ _ _ _ _ _ ho0 ho2 hf) ⟨rfl, rfl, rfl, rfl, rfl, trivial⟩
/-! BracketHallModel.forgets()V -/
def f_X10_forgets  (M : Mem) : Option (Mem) :=
  lt1 (up M 84 46 0) fun M2 =>
  lt1 (up M2 112 0 0) fun M11 =>
  lt1 (up M11 112 1 0) fun M18 =>
  some M18
set_option maxRecDepth 20000 in
theorem ct_X10_forgets {G : Gl}  (M : Mem) {res : Mem}  (hf : f_X10_forgets  M = some res) : Ct G miX10_forgets yX10_forgets 0 [aR 84] M none res := by
  refine Ct.of (L := [some (aR 84)]) mwX10_forgets rfl trivial nle ⟨rfl, trivial⟩ ?_
  unfold f_X10_forgets at hf
  refine R_aload_n dX10_forgets_0 rfl rfl ?_
  refine R_iconst dX10_forgets_1 (v := 0) rfl ?_
  obtain ⟨M2, hM2, hf⟩ := ltE hf
  refine R_put (ki := 46) dX10_forgets_2 cl10 flX10_251 o_84 (Or.inl fz10_46) rfl hM2 ?_
  refine R_aload_n dX10_forgets_5 rfl rfl ?_
  refine R_getR dX10_forgets_6 cl10 flX10_107 o_84 ff10_49 (fr10_49 _) a_112.1 ?_
  refine R_iconst dX10_forgets_9 (v := 0) rfl ?_
  refine R_iconst dX10_forgets_10 (v := 0) rfl ?_
  obtain ⟨M11, hM11, hf⟩ := ltE hf
  refine R_zastore dX10_forgets_11 a_112 (by decide) (by decide) (by decide) hM11 ?_
  refine R_aload_n dX10_forgets_12 rfl rfl ?_
  refine R_getR dX10_forgets_13 cl10 flX10_107 o_84 ff10_49 (fr10_49 _) a_112.1 ?_
  refine R_iconst dX10_forgets_16 (v := 1) rfl ?_
  refine R_iconst dX10_forgets_17 (v := 0) rfl ?_
  obtain ⟨M18, hM18, hf⟩ := ltE hf
  refine R_zastore dX10_forgets_18 a_112 (by decide) (by decide) (by decide) hM18 ?_
  cases hf; exact E_vret dX10_forgets_19 rfl rfl rfl
/-! BracketHallModel.setup(I)I -/
def f_X10_setup_K216  (M : Mem) : Option (Int × Mem) :=
  lt1 (up M 84 4 (M 84 10)) fun M221 =>
  lt1 (up M221 84 5 (M221 84 11)) fun M229 =>
  lt1 (up M229 84 6 (M229 84 12)) fun M237 =>
  (f_X10_copies 89 0 90 0 M237).bind fun p250 =>
  (f_X10_forgets p250).bind fun p254 =>
  some (0, p254)
def f_X10_setup_L181 : Nat → Int → Mem → Option (Int × Mem)
  | 0, _, _ => none
  | n + 1, v3, M =>
    if 4 ≤ v3 then
      f_X10_setup_K216 M
    else
      if (0 : Int) ≤ v3 ∧ v3 < 4 then
      lt1 (up M 85 v3 (M 87 v3)) fun M197 =>
      lt1 (up M197 86 v3 (M197 88 v3)) fun M209 =>
      lt1 (w32 (v3 + 1)) fun v3_210 =>
      f_X10_setup_L181 n v3_210 M209
      else none
def f_X10_setup_K162 (v2 : Int) (M : Mem) : Option (Int × Mem) :=
  if v2 = 0 then
    some (M 84 22, M)
  else
    lt1 (up M 84 1 (M 84 7)) fun M176 =>
    f_X10_setup_L181 4096 0 M176
def f_X10_setup_L128 : Nat → Int → Mem → Option (Int × Mem)
  | 0, _, _ => none
  | n + 1, v2, M =>
    if v2 = 0 then
      f_X10_setup_K162 v2 M
    else
      if (M 84 20) = 0 then
        f_X10_setup_K162 v2 M
      else
        (f_X10_readStatement M).bind fun p140 =>
        if p140.1 = 0 then
          f_X10_setup_L128 n 0 p140.2
        else
          (f_X10_semicolon p140.2).bind fun p147 =>
          if p147.1 = 0 then
            f_X10_setup_L128 n 0 p147.2
          else
            f_X10_setup_L128 n 1 p147.2
def f_X10_setup_K111 (v2 : Int) (M : Mem) : Option (Int × Mem) :=
  if v2 = 0 then
    f_X10_setup_L128 4096 0 M
  else
    (f_X10_semicolon M).bind fun p116 =>
    if p116.1 = 0 then
      f_X10_setup_L128 4096 0 p116.2
    else
      f_X10_setup_L128 4096 1 p116.2
def f_X10_setup_L91 : Nat → Int → Mem → Option (Int × Mem)
  | 0, _, _ => none
  | n + 1, v2, M =>
    if v2 = 0 then
      f_X10_setup_K111 v2 M
    else
      if (M 84 20) = 3 then
        f_X10_setup_K111 v2 M
      else
        (f_X10_readKind M).bind fun p104 =>
        lt1 (p104.1) fun v2_107 =>
        f_X10_setup_L91 n v2_107 p104.2
def f_X10_setup (v1 : Int) (M : Mem) : Option (Int × Mem) :=
  lt1 (up M 84 0 0) fun M2 =>
  (f_X10_isIn v1 0 (M2 84 16) M2).bind fun p12 =>
  if p12 = 0 then
    (f_X10_throwsIf 1 1 M2).bind fun p24 =>
    if p24.1 = 0 then
      (f_X10_beginsText v1 p24.2).bind fun p34 =>
      lt1 (up p34 84 7 0) fun M39 =>
      lt1 (up M39 84 10 (-1)) fun M44 =>
      lt1 (up M44 84 11 (-1)) fun M49 =>
      lt1 (up M49 84 12 (-1)) fun M54 =>
      (f_X10_empties 89 M54).bind fun p61 =>
      (f_X10_isWord 228 p61).bind fun p69 =>
      (f_X10_starts 1 p69 p61).bind fun p72 =>
      if p72.1 = 0 then
        f_X10_setup_L91 4096 0 p72.2
      else
        (f_X10_readKind p72.2).bind fun p79 =>
        if p79.1 = 0 then
          f_X10_setup_L91 4096 0 p79.2
        else
          f_X10_setup_L91 4096 1 p79.2
    else
      some (0, p24.2)
  else
    (f_X10_throwsIf 0 1 M2).bind fun p24 =>
    if p24.1 = 0 then
      (f_X10_beginsText v1 p24.2).bind fun p34 =>
      lt1 (up p34 84 7 0) fun M39 =>
      lt1 (up M39 84 10 (-1)) fun M44 =>
      lt1 (up M44 84 11 (-1)) fun M49 =>
      lt1 (up M49 84 12 (-1)) fun M54 =>
      (f_X10_empties 89 M54).bind fun p61 =>
      (f_X10_isWord 228 p61).bind fun p69 =>
      (f_X10_starts 1 p69 p61).bind fun p72 =>
      if p72.1 = 0 then
        f_X10_setup_L91 4096 0 p72.2
      else
        (f_X10_readKind p72.2).bind fun p79 =>
        if p79.1 = 0 then
          f_X10_setup_L91 4096 0 p79.2
        else
          f_X10_setup_L91 4096 1 p79.2
    else
      some (0, p24.2)
set_option maxRecDepth 20000 in
theorem rn_X10_setup_K216 {G : Gl}  (M : Mem) (res : Int × Mem)  (hf : f_X10_setup_K216  M = some res) : Run G false (rmD 8 0 0) miX10_setup (ZP G (some (aI res.1)) res.2) 0 0 216 [some (aR 84), none, none, none] [] M := by
  unfold f_X10_setup_K216 at hf
  refine R_aload_n dX10_setup_216 rfl rfl ?_
  refine R_aload_n dX10_setup_217 rfl rfl ?_
  refine R_getI (ki := 10) dX10_setup_218 cl10 flX10_185 o_84 ff10_10 rfl rfl ?_
  obtain ⟨M221, hM221, hf⟩ := ltE hf
  refine R_put (ki := 4) dX10_setup_221 cl10 flX10_16 o_84 (Or.inl fz10_4) rfl hM221 ?_
  refine R_aload_n dX10_setup_224 rfl rfl ?_
  refine R_aload_n dX10_setup_225 rfl rfl ?_
  refine R_getI (ki := 11) dX10_setup_226 cl10 flX10_188 o_84 ff10_11 rfl rfl ?_
  obtain ⟨M229, hM229, hf⟩ := ltE hf
  refine R_put (ki := 5) dX10_setup_229 cl10 flX10_20 o_84 (Or.inl fz10_5) rfl hM229 ?_
  refine R_aload_n dX10_setup_232 rfl rfl ?_
  refine R_aload_n dX10_setup_233 rfl rfl ?_
  refine R_getI (ki := 12) dX10_setup_234 cl10 flX10_191 o_84 ff10_12 rfl rfl ?_
  obtain ⟨M237, hM237, hf⟩ := ltE hf
  refine R_put (ki := 6) dX10_setup_237 cl10 flX10_23 o_84 (Or.inl fz10_6) rfl hM237 ?_
  refine R_aload_n dX10_setup_240 rfl rfl ?_
  refine R_getR dX10_setup_241 cl10 flX10_32 o_84 ff10_13 (fr10_13 _) a_89.1 ?_
  refine R_iconst dX10_setup_244 (v := 0) rfl ?_
  refine R_aload_n dX10_setup_245 rfl rfl ?_
  refine R_getR dX10_setup_246 cl10 flX10_35 o_84 ff10_14 (fr10_14 _) a_90.1 ?_
  refine R_iconst dX10_setup_249 (v := 0) rfl ?_
  obtain ⟨p250, hp250, hf⟩ := bdE hf
  refine R_callS (As := [aR 89, aI 0, aR 90, aI 0]) (st := []) dX10_setup_250 (ct_X10_copies _ _ _ _ _ a_89.i a_90.i hp250) mwX10_copies msX10_copies mlX10_244 rfl ⟨nle, nle, nle, nle⟩ nle rfl ?_
  refine R_aload_n dX10_setup_253 rfl rfl ?_
  obtain ⟨p254, hp254, hf⟩ := bdE hf
  refine R_callV (As := []) (st := []) dX10_setup_254 (ct_X10_forgets  _  hp254) mwX10_forgets mvX10_forgets mlX10_248 cl10 o_84 rfl rfl ⟨nle, nle, nle, nle⟩ nle rfl ?_
  refine R_iconst dX10_setup_257 (v := 0) rfl ?_
  cases hf; exact E_iret dX10_setup_258 rfl rfl rfl
set_option maxRecDepth 20000 in
theorem rn_X10_setup_L181 {G : Gl} : ∀ (n : Nat) (v3 : Int) (M : Mem) (res : Int × Mem),  f_X10_setup_L181 n v3 M = some res → Run G false (rmD 8 0 0) miX10_setup (ZP G (some (aI res.1)) res.2) 0 0 181 [some (aR 84), none, none, some (aI v3)] [] M := by
  intro n
  induction n with
  | zero => intro v3 M res  hf; cases hf
  | succ n ih =>
    intro v3 M res  hf
    rw [f_X10_setup_L181] at hf
    refine R_iload_n dX10_setup_181 rfl rfl ?_
    refine R_iconst dX10_setup_182 (v := 4) rfl ?_
    refine R_icmp_ge dX10_setup_183 rfl (fun h183 => ?_) (fun h183 => ?_)
    · replace hf := iposE hf h183
      exact R_subk (rn_X10_setup_K216  _ _  hf) ⟨rfl, trivial⟩
    · replace hf := inegE hf h183
      refine R_aload_n dX10_setup_186 rfl rfl ?_
      refine R_getR dX10_setup_187 cl10 flX10_7 o_84 ff10_2 (fr10_2 _) a_85.1 ?_
      refine R_iload_n dX10_setup_190 rfl rfl ?_
      refine R_aload_n dX10_setup_191 rfl rfl ?_
      refine R_getR dX10_setup_192 cl10 flX10_26 o_84 ff10_8 (fr10_8 _) a_87.1 ?_
      refine R_iload_n dX10_setup_195 rfl rfl ?_
      obtain ⟨hg1, hf⟩ := gdE hf
      refine R_iaload dX10_setup_196 a_87 hg1.1 hg1.2 rfl ?_
      obtain ⟨M197, hM197, hf⟩ := ltE hf
      refine R_iastore dX10_setup_197 a_85 hg1.1 hg1.2 hM197 ?_
      refine R_aload_n dX10_setup_198 rfl rfl ?_
      refine R_getR dX10_setup_199 cl10 flX10_13 o_84 ff10_3 (fr10_3 _) a_86.1 ?_
      refine R_iload_n dX10_setup_202 rfl rfl ?_
      refine R_aload_n dX10_setup_203 rfl rfl ?_
      refine R_getR dX10_setup_204 cl10 flX10_29 o_84 ff10_9 (fr10_9 _) a_88.1 ?_
      refine R_iload_n dX10_setup_207 rfl rfl ?_
      refine R_iaload dX10_setup_208 a_88 hg1.1 hg1.2 rfl ?_
      obtain ⟨M209, hM209, hf⟩ := ltE hf
      refine R_iastore dX10_setup_209 a_86 hg1.1 hg1.2 hM209 ?_
      obtain ⟨v3_210, hv3_210, hf⟩ := ltE hf
      refine R_iinc dX10_setup_210 rfl rfl hv3_210 (by decide) rfl ?_
      refine R_goto dX10_setup_213 rfl ?_
      exact R_subk (ih _ _ _  hf) ⟨rfl, rfl, trivial⟩
set_option maxRecDepth 20000 in
theorem rn_X10_setup_K162 {G : Gl} (v2 : Int) (M : Mem) (res : Int × Mem)  (hf : f_X10_setup_K162 v2 M = some res) : Run G false (rmD 8 0 0) miX10_setup (ZP G (some (aI res.1)) res.2) 0 0 162 [some (aR 84), none, some (aI v2), none] [] M := by
  unfold f_X10_setup_K162 at hf
  refine R_iload_n dX10_setup_162 rfl rfl ?_
  refine R_if_ne dX10_setup_163 rfl (fun h163 => ?_) (fun h163 => ?_)
  · replace hf := inegE hf h163
    refine R_aload_n dX10_setup_171 rfl rfl ?_
    refine R_aload_n dX10_setup_172 rfl rfl ?_
    refine R_getI (ki := 7) dX10_setup_173 cl10 flX10_194 o_84 ff10_7 rfl rfl ?_
    obtain ⟨M176, hM176, hf⟩ := ltE hf
    refine R_put (ki := 1) dX10_setup_176 cl10 flX10_110 o_84 (Or.inl fz10_1) rfl hM176 ?_
    refine R_iconst dX10_setup_179 (v := 0) rfl ?_
    refine R_istore_n dX10_setup_180 rfl (by decide) rfl rfl ?_
    exact R_subk (rn_X10_setup_L181 4096 _ _ _  hf) ⟨rfl, rfl, trivial⟩
  · replace hf := iposE hf h163
    refine R_aload_n dX10_setup_166 rfl rfl ?_
    refine R_getI (ki := 22) dX10_setup_167 cl10 flX10_169 o_84 ff10_22 rfl rfl ?_
    cases hf; exact E_iret dX10_setup_170 rfl rfl rfl
set_option maxRecDepth 20000 in
theorem rn_X10_setup_L128 {G : Gl} : ∀ (n : Nat) (v2 : Int) (M : Mem) (res : Int × Mem),  f_X10_setup_L128 n v2 M = some res → Run G false (rmD 8 0 0) miX10_setup (ZP G (some (aI res.1)) res.2) 0 0 128 [some (aR 84), none, some (aI v2), none] [] M := by
  intro n
  induction n with
  | zero => intro v2 M res  hf; cases hf
  | succ n ih =>
    intro v2 M res  hf
    rw [f_X10_setup_L128] at hf
    refine R_iload_n dX10_setup_128 rfl rfl ?_
    refine R_if_eq dX10_setup_129 rfl (fun h129 => ?_) (fun h129 => ?_)
    · replace hf := iposE hf h129
      exact R_subk (rn_X10_setup_K162 _ _ _  hf) ⟨rfl, rfl, trivial⟩
    · replace hf := inegE hf h129
      refine R_aload_n dX10_setup_132 rfl rfl ?_
      refine R_getI (ki := 20) dX10_setup_133 cl10 flX10_154 o_84 ff10_20 rfl rfl ?_
      refine R_if_eq dX10_setup_136 rfl (fun h136 => ?_) (fun h136 => ?_)
      · replace hf := iposE hf h136
        exact R_subk (rn_X10_setup_K162 _ _ _  hf) ⟨rfl, rfl, trivial⟩
      · replace hf := inegE hf h136
        refine R_aload_n dX10_setup_139 rfl rfl ?_
        obtain ⟨p140, hp140, hf⟩ := bdE hf
        refine R_callV (As := []) (st := []) dX10_setup_140 (ct_X10_readStatement  _  hp140) mwX10_readStatement mvX10_readStatement mlX10_241 cl10 o_84 rfl rfl ⟨nle, nle, nle, nle⟩ nle rfl ?_
        refine R_if_eq dX10_setup_143 rfl (fun h143 => ?_) (fun h143 => ?_)
        · replace hf := iposE hf h143
          refine R_iconst dX10_setup_157 (v := 0) rfl ?_
          refine R_istore_n dX10_setup_158 rfl (by decide) rfl rfl ?_
          refine R_goto dX10_setup_159 rfl ?_
          exact R_subk (ih _ _ _  hf) ⟨rfl, rfl, trivial⟩
        · replace hf := inegE hf h143
          refine R_aload_n dX10_setup_146 rfl rfl ?_
          obtain ⟨p147, hp147, hf⟩ := bdE hf
          refine R_callV (As := []) (st := []) dX10_setup_147 (ct_X10_semicolon  _  hp147) mwX10_semicolon mvX10_semicolon mlX10_238 cl10 o_84 rfl rfl ⟨nle, nle, nle, nle⟩ nle rfl ?_
          refine R_if_eq dX10_setup_150 rfl (fun h150 => ?_) (fun h150 => ?_)
          · replace hf := iposE hf h150
            refine R_iconst dX10_setup_157 (v := 0) rfl ?_
            refine R_istore_n dX10_setup_158 rfl (by decide) rfl rfl ?_
            refine R_goto dX10_setup_159 rfl ?_
            exact R_subk (ih _ _ _  hf) ⟨rfl, rfl, trivial⟩
          · replace hf := inegE hf h150
            refine R_iconst dX10_setup_153 (v := 1) rfl ?_
            refine R_goto dX10_setup_154 rfl ?_
            refine R_istore_n dX10_setup_158 rfl (by decide) rfl rfl ?_
            refine R_goto dX10_setup_159 rfl ?_
            exact R_subk (ih _ _ _  hf) ⟨rfl, rfl, trivial⟩
set_option maxRecDepth 20000 in
theorem rn_X10_setup_K111 {G : Gl} (v2 : Int) (M : Mem) (res : Int × Mem)  (hf : f_X10_setup_K111 v2 M = some res) : Run G false (rmD 8 0 0) miX10_setup (ZP G (some (aI res.1)) res.2) 0 0 111 [some (aR 84), none, some (aI v2), none] [] M := by
  unfold f_X10_setup_K111 at hf
  refine R_iload_n dX10_setup_111 rfl rfl ?_
  refine R_if_eq dX10_setup_112 rfl (fun h112 => ?_) (fun h112 => ?_)
  · replace hf := iposE hf h112
    refine R_iconst dX10_setup_126 (v := 0) rfl ?_
    refine R_istore_n dX10_setup_127 rfl (by decide) rfl rfl ?_
    exact R_subk (rn_X10_setup_L128 4096 _ _ _  hf) ⟨rfl, rfl, trivial⟩
  · replace hf := inegE hf h112
    refine R_aload_n dX10_setup_115 rfl rfl ?_
    obtain ⟨p116, hp116, hf⟩ := bdE hf
    refine R_callV (As := []) (st := []) dX10_setup_116 (ct_X10_semicolon  _  hp116) mwX10_semicolon mvX10_semicolon mlX10_238 cl10 o_84 rfl rfl ⟨nle, nle, nle, nle⟩ nle rfl ?_
    refine R_if_eq dX10_setup_119 rfl (fun h119 => ?_) (fun h119 => ?_)
    · replace hf := iposE hf h119
      refine R_iconst dX10_setup_126 (v := 0) rfl ?_
      refine R_istore_n dX10_setup_127 rfl (by decide) rfl rfl ?_
      exact R_subk (rn_X10_setup_L128 4096 _ _ _  hf) ⟨rfl, rfl, trivial⟩
    · replace hf := inegE hf h119
      refine R_iconst dX10_setup_122 (v := 1) rfl ?_
      refine R_goto dX10_setup_123 rfl ?_
      refine R_istore_n dX10_setup_127 rfl (by decide) rfl rfl ?_
      exact R_subk (rn_X10_setup_L128 4096 _ _ _  hf) ⟨rfl, rfl, trivial⟩
set_option maxRecDepth 20000 in
theorem rn_X10_setup_L91 {G : Gl} : ∀ (n : Nat) (v2 : Int) (M : Mem) (res : Int × Mem),  f_X10_setup_L91 n v2 M = some res → Run G false (rmD 8 0 0) miX10_setup (ZP G (some (aI res.1)) res.2) 0 0 91 [some (aR 84), none, some (aI v2), none] [] M := by
  intro n
  induction n with
  | zero => intro v2 M res  hf; cases hf
  | succ n ih =>
    intro v2 M res  hf
    rw [f_X10_setup_L91] at hf
    refine R_iload_n dX10_setup_91 rfl rfl ?_
    refine R_if_eq dX10_setup_92 rfl (fun h92 => ?_) (fun h92 => ?_)
    · replace hf := iposE hf h92
      exact R_subk (rn_X10_setup_K111 _ _ _  hf) ⟨rfl, rfl, trivial⟩
    · replace hf := inegE hf h92
      refine R_aload_n dX10_setup_95 rfl rfl ?_
      refine R_getI (ki := 20) dX10_setup_96 cl10 flX10_154 o_84 ff10_20 rfl rfl ?_
      refine R_iconst dX10_setup_99 (v := 3) rfl ?_
      refine R_icmp_eq dX10_setup_100 rfl (fun h100 => ?_) (fun h100 => ?_)
      · replace hf := iposE hf h100
        exact R_subk (rn_X10_setup_K111 _ _ _  hf) ⟨rfl, rfl, trivial⟩
      · replace hf := inegE hf h100
        refine R_aload_n dX10_setup_103 rfl rfl ?_
        obtain ⟨p104, hp104, hf⟩ := bdE hf
        refine R_callV (As := []) (st := []) dX10_setup_104 (ct_X10_readKind  _  hp104) mwX10_readKind mvX10_readKind mlX10_235 cl10 o_84 rfl rfl ⟨nle, nle, nle, nle⟩ nle rfl ?_
        obtain ⟨v2_107, hv2_107, hf⟩ := ltE hf
        refine R_istore_n dX10_setup_107 rfl (by decide) hv2_107 rfl ?_
        refine R_goto dX10_setup_108 rfl ?_
        exact R_subk (ih _ _ _  hf) ⟨rfl, rfl, trivial⟩
set_option maxRecDepth 20000 in
theorem ct_X10_setup {G : Gl} (v1 : Int) (M : Mem) {res : Int × Mem}  (hf : f_X10_setup v1 M = some res) : Ct G miX10_setup yX10_setup 8 [aR 84, aI v1] M (some (aI res.1)) res.2 := by
  refine Ct.of (L := [some (aR 84), some (aI v1), none, none]) mwX10_setup rfl trivial nle ⟨rfl, rfl, trivial⟩ ?_
  unfold f_X10_setup at hf
  refine R_aload_n dX10_setup_0 rfl rfl ?_
  refine R_iconst dX10_setup_1 (v := 0) rfl ?_
  obtain ⟨M2, hM2, hf⟩ := ltE hf
  refine R_put (ki := 0) dX10_setup_2 cl10 flX10_117 o_84 (Or.inl fz10_0) rfl hM2 ?_
  refine R_aload_n dX10_setup_5 rfl rfl ?_
  refine R_iload_n dX10_setup_6 rfl rfl ?_
  refine R_iconst dX10_setup_7 (v := 0) rfl ?_
  refine R_aload_n dX10_setup_8 rfl rfl ?_
  refine R_getI (ki := 16) dX10_setup_9 cl10 flX10_120 o_84 ff10_16 rfl rfl ?_
  obtain ⟨p12, hp12, hf⟩ := bdE hf
  refine R_callS (As := [aI v1, aI 0, aI (M2 84 16)]) (st := [aR 84]) dX10_setup_12 (ct_X10_isIn _ _ _ _  hp12) mwX10_isIn msX10_isIn mlX10_130 rfl ⟨nle, nle, nle, nle⟩ nle rfl ?_
  refine R_if_ne dX10_setup_15 rfl (fun h15 => ?_) (fun h15 => ?_)
  · replace hf := inegE hf h15
    refine R_iconst dX10_setup_22 (v := 0) rfl ?_
    refine R_iconst dX10_setup_23 (v := 1) rfl ?_
    obtain ⟨p24, hp24, hf⟩ := bdE hf
    refine R_callV (As := [aI 0, aI 1]) (st := []) dX10_setup_24 (ct_X10_throwsIf _ _ _  hp24) mwX10_throwsIf mvX10_throwsIf mlX10_227 cl10 o_84 rfl rfl ⟨nle, nle, nle, nle⟩ nle rfl ?_
    refine R_if_eq dX10_setup_27 rfl (fun h27 => ?_) (fun h27 => ?_)
    · replace hf := iposE hf h27
      refine R_aload_n dX10_setup_32 rfl rfl ?_
      refine R_iload_n dX10_setup_33 rfl rfl ?_
      obtain ⟨p34, hp34, hf⟩ := bdE hf
      refine R_callV (As := [aI v1]) (st := []) dX10_setup_34 (ct_X10_beginsText _ _  hp34) mwX10_beginsText mvX10_beginsText mlX10_231 cl10 o_84 rfl rfl ⟨nle, nle, nle, nle⟩ nle rfl ?_
      refine R_aload_n dX10_setup_37 rfl rfl ?_
      refine R_iconst dX10_setup_38 (v := 0) rfl ?_
      obtain ⟨M39, hM39, hf⟩ := ltE hf
      refine R_put (ki := 7) dX10_setup_39 cl10 flX10_194 o_84 (Or.inl fz10_7) rfl hM39 ?_
      refine R_aload_n dX10_setup_42 rfl rfl ?_
      refine R_iconst dX10_setup_43 (v := (-1)) rfl ?_
      obtain ⟨M44, hM44, hf⟩ := ltE hf
      refine R_put (ki := 10) dX10_setup_44 cl10 flX10_185 o_84 (Or.inl fz10_10) rfl hM44 ?_
      refine R_aload_n dX10_setup_47 rfl rfl ?_
      refine R_iconst dX10_setup_48 (v := (-1)) rfl ?_
      obtain ⟨M49, hM49, hf⟩ := ltE hf
      refine R_put (ki := 11) dX10_setup_49 cl10 flX10_188 o_84 (Or.inl fz10_11) rfl hM49 ?_
      refine R_aload_n dX10_setup_52 rfl rfl ?_
      refine R_iconst dX10_setup_53 (v := (-1)) rfl ?_
      obtain ⟨M54, hM54, hf⟩ := ltE hf
      refine R_put (ki := 12) dX10_setup_54 cl10 flX10_191 o_84 (Or.inl fz10_12) rfl hM54 ?_
      refine R_aload_n dX10_setup_57 rfl rfl ?_
      refine R_getR dX10_setup_58 cl10 flX10_32 o_84 ff10_13 (fr10_13 _) a_89.1 ?_
      obtain ⟨p61, hp61, hf⟩ := bdE hf
      refine R_callS (As := [aR 89]) (st := []) dX10_setup_61 (ct_X10_empties _ _ a_89.i hp61) mwX10_empties msX10_empties mlX10_113 rfl ⟨nle, nle, nle, nle⟩ nle rfl ?_
      refine R_aload_n dX10_setup_64 rfl rfl ?_
      refine R_iconst dX10_setup_65 (v := 1) rfl ?_
      refine R_aload_n dX10_setup_66 rfl rfl ?_
      refine R_ldcS dX10_setup_67 (j := 28) rfl rfl ?_
      obtain ⟨p69, hp69, hf⟩ := bdE hf
      refine R_callV (As := [aR 228]) (st := [aI 1, aR 84]) dX10_setup_69 (ct_X10_isWord _ _ s_28 hp69) mwX10_isWord mvX10_isWord mlX10_205 cl10 o_84 rfl rfl ⟨nle, nle, nle, nle⟩ nle rfl ?_
      obtain ⟨p72, hp72, hf⟩ := bdE hf
      refine R_callV (As := [aI 1, aI p69]) (st := []) dX10_setup_72 (ct_X10_starts _ _ _  hp72) mwX10_starts mvX10_starts mlX10_181 cl10 o_84 rfl rfl ⟨nle, nle, nle, nle⟩ nle rfl ?_
      refine R_if_eq dX10_setup_75 rfl (fun h75 => ?_) (fun h75 => ?_)
      · replace hf := iposE hf h75
        refine R_iconst dX10_setup_89 (v := 0) rfl ?_
        refine R_istore_n dX10_setup_90 rfl (by decide) rfl rfl ?_
        exact R_subk (rn_X10_setup_L91 4096 _ _ _  hf) ⟨rfl, rfl, trivial⟩
      · replace hf := inegE hf h75
        refine R_aload_n dX10_setup_78 rfl rfl ?_
        obtain ⟨p79, hp79, hf⟩ := bdE hf
        refine R_callV (As := []) (st := []) dX10_setup_79 (ct_X10_readKind  _  hp79) mwX10_readKind mvX10_readKind mlX10_235 cl10 o_84 rfl rfl ⟨nle, nle, nle, nle⟩ nle rfl ?_
        refine R_if_eq dX10_setup_82 rfl (fun h82 => ?_) (fun h82 => ?_)
        · replace hf := iposE hf h82
          refine R_iconst dX10_setup_89 (v := 0) rfl ?_
          refine R_istore_n dX10_setup_90 rfl (by decide) rfl rfl ?_
          exact R_subk (rn_X10_setup_L91 4096 _ _ _  hf) ⟨rfl, rfl, trivial⟩
        · replace hf := inegE hf h82
          refine R_iconst dX10_setup_85 (v := 1) rfl ?_
          refine R_goto dX10_setup_86 rfl ?_
          refine R_istore_n dX10_setup_90 rfl (by decide) rfl rfl ?_
          exact R_subk (rn_X10_setup_L91 4096 _ _ _  hf) ⟨rfl, rfl, trivial⟩
    · replace hf := inegE hf h27
      refine R_iconst dX10_setup_30 (v := 0) rfl ?_
      cases hf; exact E_iret dX10_setup_31 rfl rfl rfl
  · replace hf := iposE hf h15
    refine R_iconst dX10_setup_18 (v := 1) rfl ?_
    refine R_goto dX10_setup_19 rfl ?_
    refine R_iconst dX10_setup_23 (v := 1) rfl ?_
    obtain ⟨p24, hp24, hf⟩ := bdE hf
    refine R_callV (As := [aI 1, aI 1]) (st := []) dX10_setup_24 (ct_X10_throwsIf _ _ _  hp24) mwX10_throwsIf mvX10_throwsIf mlX10_227 cl10 o_84 rfl rfl ⟨nle, nle, nle, nle⟩ nle rfl ?_
    refine R_if_eq dX10_setup_27 rfl (fun h27 => ?_) (fun h27 => ?_)
    · replace hf := iposE hf h27
      refine R_aload_n dX10_setup_32 rfl rfl ?_
      refine R_iload_n dX10_setup_33 rfl rfl ?_
      obtain ⟨p34, hp34, hf⟩ := bdE hf
      refine R_callV (As := [aI v1]) (st := []) dX10_setup_34 (ct_X10_beginsText _ _  hp34) mwX10_beginsText mvX10_beginsText mlX10_231 cl10 o_84 rfl rfl ⟨nle, nle, nle, nle⟩ nle rfl ?_
      refine R_aload_n dX10_setup_37 rfl rfl ?_
      refine R_iconst dX10_setup_38 (v := 0) rfl ?_
      obtain ⟨M39, hM39, hf⟩ := ltE hf
      refine R_put (ki := 7) dX10_setup_39 cl10 flX10_194 o_84 (Or.inl fz10_7) rfl hM39 ?_
      refine R_aload_n dX10_setup_42 rfl rfl ?_
      refine R_iconst dX10_setup_43 (v := (-1)) rfl ?_
      obtain ⟨M44, hM44, hf⟩ := ltE hf
      refine R_put (ki := 10) dX10_setup_44 cl10 flX10_185 o_84 (Or.inl fz10_10) rfl hM44 ?_
      refine R_aload_n dX10_setup_47 rfl rfl ?_
      refine R_iconst dX10_setup_48 (v := (-1)) rfl ?_
      obtain ⟨M49, hM49, hf⟩ := ltE hf
      refine R_put (ki := 11) dX10_setup_49 cl10 flX10_188 o_84 (Or.inl fz10_11) rfl hM49 ?_
      refine R_aload_n dX10_setup_52 rfl rfl ?_
      refine R_iconst dX10_setup_53 (v := (-1)) rfl ?_
      obtain ⟨M54, hM54, hf⟩ := ltE hf
      refine R_put (ki := 12) dX10_setup_54 cl10 flX10_191 o_84 (Or.inl fz10_12) rfl hM54 ?_
      refine R_aload_n dX10_setup_57 rfl rfl ?_
      refine R_getR dX10_setup_58 cl10 flX10_32 o_84 ff10_13 (fr10_13 _) a_89.1 ?_
      obtain ⟨p61, hp61, hf⟩ := bdE hf
      refine R_callS (As := [aR 89]) (st := []) dX10_setup_61 (ct_X10_empties _ _ a_89.i hp61) mwX10_empties msX10_empties mlX10_113 rfl ⟨nle, nle, nle, nle⟩ nle rfl ?_
      refine R_aload_n dX10_setup_64 rfl rfl ?_
      refine R_iconst dX10_setup_65 (v := 1) rfl ?_
      refine R_aload_n dX10_setup_66 rfl rfl ?_
      refine R_ldcS dX10_setup_67 (j := 28) rfl rfl ?_
      obtain ⟨p69, hp69, hf⟩ := bdE hf
      refine R_callV (As := [aR 228]) (st := [aI 1, aR 84]) dX10_setup_69 (ct_X10_isWord _ _ s_28 hp69) mwX10_isWord mvX10_isWord mlX10_205 cl10 o_84 rfl rfl ⟨nle, nle, nle, nle⟩ nle rfl ?_
      obtain ⟨p72, hp72, hf⟩ := bdE hf
      refine R_callV (As := [aI 1, aI p69]) (st := []) dX10_setup_72 (ct_X10_starts _ _ _  hp72) mwX10_starts mvX10_starts mlX10_181 cl10 o_84 rfl rfl ⟨nle, nle, nle, nle⟩ nle rfl ?_
      refine R_if_eq dX10_setup_75 rfl (fun h75 => ?_) (fun h75 => ?_)
      · replace hf := iposE hf h75
        refine R_iconst dX10_setup_89 (v := 0) rfl ?_
        refine R_istore_n dX10_setup_90 rfl (by decide) rfl rfl ?_
        exact R_subk (rn_X10_setup_L91 4096 _ _ _  hf) ⟨rfl, rfl, trivial⟩
      · replace hf := inegE hf h75
        refine R_aload_n dX10_setup_78 rfl rfl ?_
        obtain ⟨p79, hp79, hf⟩ := bdE hf
        refine R_callV (As := []) (st := []) dX10_setup_79 (ct_X10_readKind  _  hp79) mwX10_readKind mvX10_readKind mlX10_235 cl10 o_84 rfl rfl ⟨nle, nle, nle, nle⟩ nle rfl ?_
        refine R_if_eq dX10_setup_82 rfl (fun h82 => ?_) (fun h82 => ?_)
        · replace hf := iposE hf h82
          refine R_iconst dX10_setup_89 (v := 0) rfl ?_
          refine R_istore_n dX10_setup_90 rfl (by decide) rfl rfl ?_
          exact R_subk (rn_X10_setup_L91 4096 _ _ _  hf) ⟨rfl, rfl, trivial⟩
        · replace hf := inegE hf h82
          refine R_iconst dX10_setup_85 (v := 1) rfl ?_
          refine R_goto dX10_setup_86 rfl ?_
          refine R_istore_n dX10_setup_90 rfl (by decide) rfl rfl ?_
          exact R_subk (rn_X10_setup_L91 4096 _ _ _  hf) ⟨rfl, rfl, trivial⟩
    · replace hf := inegE hf h27
      refine R_iconst dX10_setup_30 (v := 0) rfl ?_
      cases hf; exact E_iret dX10_setup_31 rfl rfl rfl
/-! BracketHallModel.canBe(I)Z -/
def f_X10_canBe (v0 : Int) (M : Mem) : Option (Int) :=
  if v0 = 10 then
    some 1
  else
    (f_X10_isIn v0 32 126 M).bind fun p11 =>
    if p11 = 0 then
      some 0
    else
      some 1
set_option maxRecDepth 20000 in
theorem ct_X10_canBe {G : Gl} (v0 : Int) (M : Mem) {res : Int}  (hf : f_X10_canBe v0 M = some res) : Ct G miX10_canBe yX10_canBe 1 [aI v0] M (some (aI res)) M := by
  refine Ct.of (L := [some (aI v0)]) mwX10_canBe rfl trivial nle ⟨rfl, trivial⟩ ?_
  unfold f_X10_canBe at hf
  refine R_iload_n dX10_canBe_0 rfl rfl ?_
  refine R_bipush dX10_canBe_1 (v := 10) rfl ?_
  refine R_icmp_eq dX10_canBe_3 rfl (fun h3 => ?_) (fun h3 => ?_)
  · replace hf := iposE hf h3
    refine R_iconst dX10_canBe_17 (v := 1) rfl ?_
    refine R_goto dX10_canBe_18 rfl ?_
    cases hf; exact E_zret dX10_canBe_22 rfl (by decide) rfl rfl
  · replace hf := inegE hf h3
    refine R_iload_n dX10_canBe_6 rfl rfl ?_
    refine R_bipush dX10_canBe_7 (v := 32) rfl ?_
    refine R_bipush dX10_canBe_9 (v := 126) rfl ?_
    obtain ⟨p11, hp11, hf⟩ := bdE hf
    refine R_callS (As := [aI v0, aI 32, aI 126]) (st := []) dX10_canBe_11 (ct_X10_isIn _ _ _ _  hp11) mwX10_isIn msX10_isIn mlX10_130 rfl ⟨nle, nle, nle, nle⟩ nle rfl ?_
    refine R_if_eq dX10_canBe_14 rfl (fun h14 => ?_) (fun h14 => ?_)
    · replace hf := iposE hf h14
      refine R_iconst dX10_canBe_21 (v := 0) rfl ?_
      cases hf; exact E_zret dX10_canBe_22 rfl (by decide) rfl rfl
    · replace hf := inegE hf h14
      refine R_iconst dX10_canBe_17 (v := 1) rfl ?_
      refine R_goto dX10_canBe_18 rfl ?_
      cases hf; exact E_zret dX10_canBe_22 rfl (by decide) rfl rfl
/-! BracketHallModel.refusal(II)I -/
def f_X10_refusal_L14 : Nat → Int → Int → Mem → Option (Int)
  | 0, _, _, _ => none
  | n + 1, v2, v3, M =>
    if v2 ≤ v3 then
      some 0
    else
      if (0 : Int) ≤ v3 ∧ v3 < 600 then
      (f_X10_canBe (ian (M 91 v3) 255) M).bind fun p29 =>
      if p29 = 0 then
        some (-3)
      else
        lt1 (w32 (v3 + 1)) fun v3_38 =>
        f_X10_refusal_L14 n v2 v3_38 M
      else none
def f_X10_refusal (v1 : Int) (v2 : Int) (M : Mem) : Option (Int) :=
  if (w32 (v1 + v2)) ≤ 240 then
    f_X10_refusal_L14 4096 v2 0 M
  else
    some (-2)
set_option maxRecDepth 20000 in
theorem rn_X10_refusal_L14 {G : Gl} : ∀ (n : Nat) (v2 : Int) (v3 : Int) (M : Mem) (res : Int),  f_X10_refusal_L14 n v2 v3 M = some res → Run G false (rmD 2 0 0) miX10_refusal (ZP G (some (aI res)) M) 0 0 14 [some (aR 84), none, some (aI v2), some (aI v3)] [] M := by
  intro n
  induction n with
  | zero => intro v2 v3 M res  hf; cases hf
  | succ n ih =>
    intro v2 v3 M res  hf
    rw [f_X10_refusal_L14] at hf
    refine R_iload_n dX10_refusal_14 rfl rfl ?_
    refine R_iload_n dX10_refusal_15 rfl rfl ?_
    refine R_icmp_ge dX10_refusal_16 rfl (fun h16 => ?_) (fun h16 => ?_)
    · replace hf := iposE hf h16
      refine R_iconst dX10_refusal_44 (v := 0) rfl ?_
      cases hf; exact E_iret dX10_refusal_45 rfl rfl rfl
    · replace hf := inegE hf h16
      refine R_aload_n dX10_refusal_19 rfl rfl ?_
      refine R_getR dX10_refusal_20 cl10 flX10_38 o_84 ff10_15 (fr10_15 _) a_91.1 ?_
      refine R_iload_n dX10_refusal_23 rfl rfl ?_
      obtain ⟨hg1, hf⟩ := gdE hf
      refine R_baload dX10_refusal_24 a_91 hg1.1 hg1.2 rfl ?_
      refine R_sipush dX10_refusal_25 (v := 255) rfl ?_
      refine R_iand dX10_refusal_28 rfl ?_
      obtain ⟨p29, hp29, hf⟩ := bdE hf
      refine R_callS (As := [aI (ian (M 91 v3) 255)]) (st := []) dX10_refusal_29 (ct_X10_canBe _ _  hp29) mwX10_canBe msX10_canBe mlX10_254 rfl ⟨nle, nle, nle, nle⟩ nle rfl ?_
      refine R_if_ne dX10_refusal_32 rfl (fun h32 => ?_) (fun h32 => ?_)
      · replace hf := inegE hf h32
        obtain ⟨v3_38, hv3_38, hf⟩ := ltE hf
        refine R_iinc dX10_refusal_38 rfl rfl hv3_38 (by decide) rfl ?_
        refine R_goto dX10_refusal_41 rfl ?_
        exact R_subk (ih _ _ _ _  hf) ⟨rfl, rfl, rfl, trivial⟩
      · replace hf := iposE hf h32
        refine R_bipush dX10_refusal_35 (v := (-3)) rfl ?_
        cases hf; exact E_iret dX10_refusal_37 rfl rfl rfl
set_option maxRecDepth 20000 in
theorem ct_X10_refusal {G : Gl} (v1 : Int) (v2 : Int) (M : Mem) {res : Int}  (hf : f_X10_refusal v1 v2 M = some res) : Ct G miX10_refusal yX10_refusal 2 [aR 84, aI v1, aI v2] M (some (aI res)) M := by
  refine Ct.of (L := [some (aR 84), some (aI v1), some (aI v2), none]) mwX10_refusal rfl trivial nle ⟨rfl, rfl, rfl, trivial⟩ ?_
  unfold f_X10_refusal at hf
  refine R_iload_n dX10_refusal_0 rfl rfl ?_
  refine R_iload_n dX10_refusal_1 rfl rfl ?_
  refine R_iadd dX10_refusal_2 rfl ?_
  refine R_sipush dX10_refusal_3 (v := 240) rfl ?_
  refine R_icmp_le dX10_refusal_6 rfl (fun h6 => ?_) (fun h6 => ?_)
  · replace hf := iposE hf h6
    refine R_iconst dX10_refusal_12 (v := 0) rfl ?_
    refine R_istore_n dX10_refusal_13 rfl (by decide) rfl rfl ?_
    exact R_subk (rn_X10_refusal_L14 4096 _ _ _ _  hf) ⟨rfl, rfl, rfl, trivial⟩
  · replace hf := inegE hf h6
    refine R_bipush dX10_refusal_9 (v := (-2)) rfl ?_
    cases hf; exact E_iret dX10_refusal_11 rfl rfl rfl
/-! BracketHallModel.kindAt([II)I -/
def f_X10_kindAt_L2 : Nat → Nat → Int → Int → Mem → Option (Int)
  | 0, _, _, _, _ => none
  | n + 1, o1, v2, v3, M =>
    if (M 84 1) ≤ v3 then
      some (-1)
    else
      if (0 : Int) ≤ v3 ∧ v3 < alen o1 then
      if (M o1 v3) = v2 then
        some v3
      else
        lt1 (w32 (v3 + 1)) fun v3_19 =>
        f_X10_kindAt_L2 n o1 v2 v3_19 M
      else none
def f_X10_kindAt (o1 : Nat) (v2 : Int) (M : Mem) : Option (Int) :=
  f_X10_kindAt_L2 4096 o1 v2 0 M
set_option maxRecDepth 20000 in
theorem rn_X10_kindAt_L2 {G : Gl} : ∀ (n : Nat) (o1 : Nat) (v2 : Int) (v3 : Int) (M : Mem) (res : Int), isI 20 o1 → f_X10_kindAt_L2 n o1 v2 v3 M = some res → Run G false (rmD 0 0 0) miX10_kindAt (ZP G (some (aI res)) M) 0 0 2 [some (aR 84), some (aR o1), some (aI v2), some (aI v3)] [] M := by
  intro n
  induction n with
  | zero => intro o1 v2 v3 M res ho1 hf; cases hf
  | succ n ih =>
    intro o1 v2 v3 M res ho1 hf
    rw [f_X10_kindAt_L2] at hf
    refine R_iload_n dX10_kindAt_2 rfl rfl ?_
    refine R_aload_n dX10_kindAt_3 rfl rfl ?_
    refine R_getI (ki := 1) dX10_kindAt_4 cl10 flX10_110 o_84 ff10_1 rfl rfl ?_
    refine R_icmp_ge dX10_kindAt_7 rfl (fun h7 => ?_) (fun h7 => ?_)
    · replace hf := iposE hf h7
      refine R_iconst dX10_kindAt_25 (v := (-1)) rfl ?_
      cases hf; exact E_iret dX10_kindAt_26 rfl rfl rfl
    · replace hf := inegE hf h7
      refine R_aload_n dX10_kindAt_10 rfl rfl ?_
      refine R_iload_n dX10_kindAt_11 rfl rfl ?_
      obtain ⟨hg1, hf⟩ := gdE hf
      refine R_iaload dX10_kindAt_12 ho1.a hg1.1 hg1.2 rfl ?_
      refine R_iload_n dX10_kindAt_13 rfl rfl ?_
      refine R_icmp_ne dX10_kindAt_14 rfl (fun h14 => ?_) (fun h14 => ?_)
      · replace hf := inegE hf h14
        obtain ⟨v3_19, hv3_19, hf⟩ := ltE hf
        refine R_iinc dX10_kindAt_19 rfl rfl hv3_19 (by decide) rfl ?_
        refine R_goto dX10_kindAt_22 rfl ?_
        exact R_subk (ih _ _ _ _ _ ho1 hf) ⟨rfl, rfl, rfl, rfl, trivial⟩
      · replace hf := iposE hf h14
        refine R_iload_n dX10_kindAt_17 rfl rfl ?_
        cases hf; exact E_iret dX10_kindAt_18 rfl rfl rfl
set_option maxRecDepth 20000 in
theorem ct_X10_kindAt {G : Gl} (o1 : Nat) (v2 : Int) (M : Mem) {res : Int} (ho1 : isI 20 o1) (hf : f_X10_kindAt o1 v2 M = some res) : Ct G miX10_kindAt yX10_kindAt 0 [aR 84, aR o1, aI v2] M (some (aI res)) M := by
  refine Ct.of (L := [some (aR 84), some (aR o1), some (aI v2), none]) mwX10_kindAt rfl trivial nle ⟨rfl, rfl, rfl, trivial⟩ ?_
  unfold f_X10_kindAt at hf
  refine R_iconst dX10_kindAt_0 (v := 0) rfl ?_
  refine R_istore_n dX10_kindAt_1 rfl (by decide) rfl rfl ?_
  exact R_subk (rn_X10_kindAt_L2 4096 _ _ _ _ _ ho1 hf) ⟨rfl, rfl, rfl, rfl, trivial⟩
/-! BracketHallModel.bracket(II)V -/
def f_X10_bracket_K33 (v1 : Int) (v3 : Int) (v4 : Int) (M : Mem) : Option (Mem) :=
  if (0 : Int) ≤ M 84 26 ∧ M 84 26 < 240 then
  lt1 (up M 93 (M 84 26) v1) fun M42 =>
  if v3 = (-1) then
    if (0 : Int) ≤ M42 84 26 ∧ M42 84 26 < 240 then
    lt1 (up M42 94 (M42 84 26) v4) fun M62 =>
    if v3 = (-1) then
      if (0 : Int) ≤ M62 84 26 ∧ M62 84 26 < 240 then
      lt1 (up M62 95 (M62 84 26) 0) fun M81 =>
      lt1 (up M81 84 26 (w32 ((M81 84 26) + 1))) fun M89 =>
      some M89
      else none
    else
      if (0 : Int) ≤ M62 84 26 ∧ M62 84 26 < 240 then
      lt1 (up M62 95 (M62 84 26) 1) fun M81 =>
      lt1 (up M81 84 26 (w32 ((M81 84 26) + 1))) fun M89 =>
      some M89
      else none
    else none
  else
    if (0 : Int) ≤ M42 84 26 ∧ M42 84 26 < 240 then
    lt1 (up M42 94 (M42 84 26) v3) fun M62 =>
    if v3 = (-1) then
      if (0 : Int) ≤ M62 84 26 ∧ M62 84 26 < 240 then
      lt1 (up M62 95 (M62 84 26) 0) fun M81 =>
      lt1 (up M81 84 26 (w32 ((M81 84 26) + 1))) fun M89 =>
      some M89
      else none
    else
      if (0 : Int) ≤ M62 84 26 ∧ M62 84 26 < 240 then
      lt1 (up M62 95 (M62 84 26) 1) fun M81 =>
      lt1 (up M81 84 26 (w32 ((M81 84 26) + 1))) fun M89 =>
      some M89
      else none
    else none
  else none
def f_X10_bracket (v1 : Int) (v2 : Int) (M : Mem) : Option (Mem) :=
  (f_X10_kindAt 85 v2 M).bind fun p6 =>
  (f_X10_kindAt 86 v2 M).bind fun p16 =>
  if p6 = (-1) then
    if p16 = (-1) then
      some M
    else
      f_X10_bracket_K33 v1 p6 p16 M
  else
    f_X10_bracket_K33 v1 p6 p16 M
set_option maxRecDepth 20000 in
theorem rn_X10_bracket_K33 {G : Gl} (v1 : Int) (v3 : Int) (v4 : Int) (M : Mem) (res : Mem)  (hf : f_X10_bracket_K33 v1 v3 v4 M = some res) : Run G false (rmD 1 0 0) miX10_bracket (ZP G none res) 0 0 33 [some (aR 84), some (aI v1), none, some (aI v3), some (aI v4)] [] M := by
  unfold f_X10_bracket_K33 at hf
  refine R_aload_n dX10_bracket_33 rfl rfl ?_
  refine R_getR dX10_bracket_34 cl10 flX10_48 o_84 ff10_27 (fr10_27 _) a_93.1 ?_
  refine R_aload_n dX10_bracket_37 rfl rfl ?_
  refine R_getI (ki := 26) dX10_bracket_38 cl10 flX10_264 o_84 ff10_26 rfl rfl ?_
  refine R_iload_n dX10_bracket_41 rfl rfl ?_
  obtain ⟨hg1, hf⟩ := gdE hf
  obtain ⟨M42, hM42, hf⟩ := ltE hf
  refine R_iastore dX10_bracket_42 a_93 hg1.1 hg1.2 hM42 ?_
  refine R_aload_n dX10_bracket_43 rfl rfl ?_
  refine R_getR dX10_bracket_44 cl10 flX10_51 o_84 ff10_28 (fr10_28 _) a_94.1 ?_
  refine R_aload_n dX10_bracket_47 rfl rfl ?_
  refine R_getI (ki := 26) dX10_bracket_48 cl10 flX10_264 o_84 ff10_26 rfl rfl ?_
  refine R_iload_n dX10_bracket_51 rfl rfl ?_
  refine R_iconst dX10_bracket_52 (v := (-1)) rfl ?_
  refine R_icmp_eq dX10_bracket_53 rfl (fun h53 => ?_) (fun h53 => ?_)
  · replace hf := iposE hf h53
    refine R_iload dX10_bracket_60 rfl ?_
    obtain ⟨hg2, hf⟩ := gdE hf
    obtain ⟨M62, hM62, hf⟩ := ltE hf
    refine R_iastore dX10_bracket_62 a_94 hg2.1 hg2.2 hM62 ?_
    refine R_aload_n dX10_bracket_63 rfl rfl ?_
    refine R_getR dX10_bracket_64 cl10 flX10_54 o_84 ff10_29 (fr10_29 _) a_95.1 ?_
    refine R_aload_n dX10_bracket_67 rfl rfl ?_
    refine R_getI (ki := 26) dX10_bracket_68 cl10 flX10_264 o_84 ff10_26 rfl rfl ?_
    refine R_iload_n dX10_bracket_71 rfl rfl ?_
    refine R_iconst dX10_bracket_72 (v := (-1)) rfl ?_
    refine R_icmp_eq dX10_bracket_73 rfl (fun h73 => ?_) (fun h73 => ?_)
    · replace hf := iposE hf h73
      refine R_iconst dX10_bracket_80 (v := 0) rfl ?_
      obtain ⟨hg3, hf⟩ := gdE hf
      obtain ⟨M81, hM81, hf⟩ := ltE hf
      refine R_zastore dX10_bracket_81 a_95 hg3.1 hg3.2 (by decide) hM81 ?_
      refine R_aload_n dX10_bracket_82 rfl rfl ?_
      refine R_dupR dX10_bracket_83 ?_
      refine R_getI (ki := 26) dX10_bracket_84 cl10 flX10_264 o_84 ff10_26 rfl rfl ?_
      refine R_iconst dX10_bracket_87 (v := 1) rfl ?_
      refine R_iadd dX10_bracket_88 rfl ?_
      obtain ⟨M89, hM89, hf⟩ := ltE hf
      refine R_put (ki := 26) dX10_bracket_89 cl10 flX10_264 o_84 (Or.inl fz10_26) rfl hM89 ?_
      cases hf; exact E_vret dX10_bracket_92 rfl rfl rfl
    · replace hf := inegE hf h73
      refine R_iconst dX10_bracket_76 (v := 1) rfl ?_
      refine R_goto dX10_bracket_77 rfl ?_
      obtain ⟨hg4, hf⟩ := gdE hf
      obtain ⟨M81, hM81, hf⟩ := ltE hf
      refine R_zastore dX10_bracket_81 a_95 hg4.1 hg4.2 (by decide) hM81 ?_
      refine R_aload_n dX10_bracket_82 rfl rfl ?_
      refine R_dupR dX10_bracket_83 ?_
      refine R_getI (ki := 26) dX10_bracket_84 cl10 flX10_264 o_84 ff10_26 rfl rfl ?_
      refine R_iconst dX10_bracket_87 (v := 1) rfl ?_
      refine R_iadd dX10_bracket_88 rfl ?_
      obtain ⟨M89, hM89, hf⟩ := ltE hf
      refine R_put (ki := 26) dX10_bracket_89 cl10 flX10_264 o_84 (Or.inl fz10_26) rfl hM89 ?_
      cases hf; exact E_vret dX10_bracket_92 rfl rfl rfl
  · replace hf := inegE hf h53
    refine R_iload_n dX10_bracket_56 rfl rfl ?_
    refine R_goto dX10_bracket_57 rfl ?_
    obtain ⟨hg5, hf⟩ := gdE hf
    obtain ⟨M62, hM62, hf⟩ := ltE hf
    refine R_iastore dX10_bracket_62 a_94 hg5.1 hg5.2 hM62 ?_
    refine R_aload_n dX10_bracket_63 rfl rfl ?_
    refine R_getR dX10_bracket_64 cl10 flX10_54 o_84 ff10_29 (fr10_29 _) a_95.1 ?_
    refine R_aload_n dX10_bracket_67 rfl rfl ?_
    refine R_getI (ki := 26) dX10_bracket_68 cl10 flX10_264 o_84 ff10_26 rfl rfl ?_
    refine R_iload_n dX10_bracket_71 rfl rfl ?_
    refine R_iconst dX10_bracket_72 (v := (-1)) rfl ?_
    refine R_icmp_eq dX10_bracket_73 rfl (fun h73 => ?_) (fun h73 => ?_)
    · replace hf := iposE hf h73
      refine R_iconst dX10_bracket_80 (v := 0) rfl ?_
      obtain ⟨hg6, hf⟩ := gdE hf
      obtain ⟨M81, hM81, hf⟩ := ltE hf
      refine R_zastore dX10_bracket_81 a_95 hg6.1 hg6.2 (by decide) hM81 ?_
      refine R_aload_n dX10_bracket_82 rfl rfl ?_
      refine R_dupR dX10_bracket_83 ?_
      refine R_getI (ki := 26) dX10_bracket_84 cl10 flX10_264 o_84 ff10_26 rfl rfl ?_
      refine R_iconst dX10_bracket_87 (v := 1) rfl ?_
      refine R_iadd dX10_bracket_88 rfl ?_
      obtain ⟨M89, hM89, hf⟩ := ltE hf
      refine R_put (ki := 26) dX10_bracket_89 cl10 flX10_264 o_84 (Or.inl fz10_26) rfl hM89 ?_
      cases hf; exact E_vret dX10_bracket_92 rfl rfl rfl
    · replace hf := inegE hf h73
      refine R_iconst dX10_bracket_76 (v := 1) rfl ?_
      refine R_goto dX10_bracket_77 rfl ?_
      obtain ⟨hg7, hf⟩ := gdE hf
      obtain ⟨M81, hM81, hf⟩ := ltE hf
      refine R_zastore dX10_bracket_81 a_95 hg7.1 hg7.2 (by decide) hM81 ?_
      refine R_aload_n dX10_bracket_82 rfl rfl ?_
      refine R_dupR dX10_bracket_83 ?_
      refine R_getI (ki := 26) dX10_bracket_84 cl10 flX10_264 o_84 ff10_26 rfl rfl ?_
      refine R_iconst dX10_bracket_87 (v := 1) rfl ?_
      refine R_iadd dX10_bracket_88 rfl ?_
      obtain ⟨M89, hM89, hf⟩ := ltE hf
      refine R_put (ki := 26) dX10_bracket_89 cl10 flX10_264 o_84 (Or.inl fz10_26) rfl hM89 ?_
      cases hf; exact E_vret dX10_bracket_92 rfl rfl rfl
set_option maxRecDepth 20000 in
theorem ct_X10_bracket {G : Gl} (v1 : Int) (v2 : Int) (M : Mem) {res : Mem}  (hf : f_X10_bracket v1 v2 M = some res) : Ct G miX10_bracket yX10_bracket 1 [aR 84, aI v1, aI v2] M none res := by
  refine Ct.of (L := [some (aR 84), some (aI v1), some (aI v2), none, none]) mwX10_bracket rfl trivial nle ⟨rfl, rfl, rfl, trivial⟩ ?_
  unfold f_X10_bracket at hf
  refine R_aload_n dX10_bracket_0 rfl rfl ?_
  refine R_aload_n dX10_bracket_1 rfl rfl ?_
  refine R_getR dX10_bracket_2 cl10 flX10_7 o_84 ff10_2 (fr10_2 _) a_85.1 ?_
  refine R_iload_n dX10_bracket_5 rfl rfl ?_
  obtain ⟨p6, hp6, hf⟩ := bdE hf
  refine R_callV (As := [aR 85, aI v2]) (st := []) dX10_bracket_6 (ct_X10_kindAt _ _ _ a_85.i hp6) mwX10_kindAt mvX10_kindAt mlX10_271 cl10 o_84 rfl rfl ⟨nle, nle, nle, nle⟩ nle rfl ?_
  refine R_istore_n dX10_bracket_9 rfl (by decide) rfl rfl ?_
  refine R_aload_n dX10_bracket_10 rfl rfl ?_
  refine R_aload_n dX10_bracket_11 rfl rfl ?_
  refine R_getR dX10_bracket_12 cl10 flX10_13 o_84 ff10_3 (fr10_3 _) a_86.1 ?_
  refine R_iload_n dX10_bracket_15 rfl rfl ?_
  obtain ⟨p16, hp16, hf⟩ := bdE hf
  refine R_callV (As := [aR 86, aI v2]) (st := []) dX10_bracket_16 (ct_X10_kindAt _ _ _ a_86.i hp16) mwX10_kindAt mvX10_kindAt mlX10_271 cl10 o_84 rfl rfl ⟨nle, nle, nle, nle⟩ nle rfl ?_
  refine R_istore dX10_bracket_19 (by decide) rfl rfl ?_
  refine R_iload_n dX10_bracket_21 rfl rfl ?_
  refine R_iconst dX10_bracket_22 (v := (-1)) rfl ?_
  refine R_icmp_ne dX10_bracket_23 rfl (fun h23 => ?_) (fun h23 => ?_)
  · replace hf := inegE hf h23
    exact R_subk (rn_X10_bracket_K33 _ _ _ _ _  hf) ⟨rfl, rfl, rfl, rfl, trivial⟩
  · replace hf := iposE hf h23
    refine R_iload dX10_bracket_26 rfl ?_
    refine R_iconst dX10_bracket_28 (v := (-1)) rfl ?_
    refine R_icmp_ne dX10_bracket_29 rfl (fun h29 => ?_) (fun h29 => ?_)
    · replace hf := inegE hf h29
      exact R_subk (rn_X10_bracket_K33 _ _ _ _ _  hf) ⟨rfl, rfl, rfl, rfl, trivial⟩
    · replace hf := iposE hf h29
      cases hf; exact E_vret dX10_bracket_32 rfl rfl rfl
/-! BracketHallModel.finds(I)V -/
def f_X10_finds_L12 : Nat → Int → Int → Int → Int → Mem → Option (Mem)
  | 0, _, _, _, _, _ => none
  | n + 1, v1, v2, v3, v4, M =>
    if (M 90 0) ≤ v4 then
      some M
    else
      if v4 = v1 then
        lt1 (w32 (v4 + 1)) fun v4_185 =>
        f_X10_finds_L12 n v1 v2 v3 v4_185 M
      else
        if (0 : Int) ≤ w32 (14 + v4) ∧ w32 (14 + v4) < 254 then
        lt1 (M 90 (w32 (14 + v4))) fun v5_42 =>
        if v2 = 1 then
          if (0 : Int) ≤ v4 ∧ v4 < 240 then
          lt1 (up M 92 v4 1) fun M56 =>
          if v5_42 = (M56 84 4) then
            if v3 = 0 then
              if v5_42 = (M56 84 5) then
                if v3 = 0 then
                  lt1 (w32 (v4 + 1)) fun v4_185 =>
                  f_X10_finds_L12 n v1 0 1 v4_185 M56
                else
                  lt1 (w32 (v4 + 1)) fun v4_185 =>
                  f_X10_finds_L12 n v1 0 0 v4_185 M56
              else
                lt1 (w32 (v4 + 1)) fun v4_185 =>
                f_X10_finds_L12 n v1 0 0 v4_185 M56
            else
              if v5_42 = (M56 84 5) then
                if v3 = 0 then
                  lt1 (w32 (v4 + 1)) fun v4_185 =>
                  f_X10_finds_L12 n v1 1 1 v4_185 M56
                else
                  lt1 (w32 (v4 + 1)) fun v4_185 =>
                  f_X10_finds_L12 n v1 1 0 v4_185 M56
              else
                lt1 (w32 (v4 + 1)) fun v4_185 =>
                f_X10_finds_L12 n v1 1 0 v4_185 M56
          else
            if v5_42 = (M56 84 5) then
              if v3 = 0 then
                lt1 (w32 (v4 + 1)) fun v4_185 =>
                f_X10_finds_L12 n v1 1 1 v4_185 M56
              else
                lt1 (w32 (v4 + 1)) fun v4_185 =>
                f_X10_finds_L12 n v1 1 0 v4_185 M56
            else
              lt1 (w32 (v4 + 1)) fun v4_185 =>
              f_X10_finds_L12 n v1 1 0 v4_185 M56
          else none
        else
          if v2 = 2 then
            if v5_42 = 10 then
              if (0 : Int) ≤ v4 ∧ v4 < 240 then
              lt1 (up M 92 v4 0) fun M135 =>
              lt1 (w32 (v4 + 1)) fun v4_185 =>
              f_X10_finds_L12 n v1 0 v3 v4_185 M135
              else none
            else
              if (0 : Int) ≤ v4 ∧ v4 < 240 then
              lt1 (up M 92 v4 2) fun M135 =>
              lt1 (w32 (v4 + 1)) fun v4_185 =>
              f_X10_finds_L12 n v1 2 v3 v4_185 M135
              else none
          else
            if v5_42 = (M 84 4) then
              if (0 : Int) ≤ v4 ∧ v4 < 240 then
              lt1 (up M 92 v4 1) fun M176 =>
              (f_X10_bracket v4 v5_42 M176).bind fun p182 =>
              lt1 (w32 (v4 + 1)) fun v4_185 =>
              f_X10_finds_L12 n v1 1 0 v4_185 p182
              else none
            else
              if v5_42 = (M 84 6) then
                if (0 : Int) ≤ v4 ∧ v4 < 240 then
                lt1 (up M 92 v4 2) fun M176 =>
                (f_X10_bracket v4 v5_42 M176).bind fun p182 =>
                lt1 (w32 (v4 + 1)) fun v4_185 =>
                f_X10_finds_L12 n v1 2 0 v4_185 p182
                else none
              else
                if (0 : Int) ≤ v4 ∧ v4 < 240 then
                lt1 (up M 92 v4 0) fun M176 =>
                (f_X10_bracket v4 v5_42 M176).bind fun p182 =>
                lt1 (w32 (v4 + 1)) fun v4_185 =>
                f_X10_finds_L12 n v1 0 0 v4_185 p182
                else none
        else none
def f_X10_finds (v1 : Int) (M : Mem) : Option (Mem) :=
  lt1 (up M 84 26 0) fun M2 =>
  f_X10_finds_L12 4096 v1 0 0 0 M2
set_option maxRecDepth 20000 in
theorem rn_X10_finds_L12 {G : Gl} : ∀ (n : Nat) (v1 : Int) (v2 : Int) (v3 : Int) (v4 : Int) (M : Mem) (res : Mem),  f_X10_finds_L12 n v1 v2 v3 v4 M = some res → Run G false (rmD 2 0 0) miX10_finds (ZP G none res) 0 0 12 [some (aR 84), some (aI v1), some (aI v2), some (aI v3), some (aI v4), none, none] [] M := by
  intro n
  induction n with
  | zero => intro v1 v2 v3 v4 M res  hf; cases hf
  | succ n ih =>
    intro v1 v2 v3 v4 M res  hf
    rw [f_X10_finds_L12] at hf
    refine R_iload dX10_finds_12 rfl ?_
    refine R_aload_n dX10_finds_14 rfl rfl ?_
    refine R_getR dX10_finds_15 cl10 flX10_35 o_84 ff10_14 (fr10_14 _) a_90.1 ?_
    refine R_iconst dX10_finds_18 (v := 0) rfl ?_
    refine R_iaload dX10_finds_19 a_90 (by decide) (by decide) rfl ?_
    refine R_icmp_ge dX10_finds_20 rfl (fun h20 => ?_) (fun h20 => ?_)
    · replace hf := iposE hf h20
      cases hf; exact E_vret dX10_finds_191 rfl rfl rfl
    · replace hf := inegE hf h20
      refine R_iload dX10_finds_23 rfl ?_
      refine R_iload_n dX10_finds_25 rfl rfl ?_
      refine R_icmp_ne dX10_finds_26 rfl (fun h26 => ?_) (fun h26 => ?_)
      · replace hf := inegE hf h26
        refine R_aload_n dX10_finds_32 rfl rfl ?_
        refine R_getR dX10_finds_33 cl10 flX10_35 o_84 ff10_14 (fr10_14 _) a_90.1 ?_
        refine R_bipush dX10_finds_36 (v := 14) rfl ?_
        refine R_iload dX10_finds_38 rfl ?_
        refine R_iadd dX10_finds_40 rfl ?_
        obtain ⟨hg1, hf⟩ := gdE hf
        refine R_iaload dX10_finds_41 a_90 hg1.1 hg1.2 rfl ?_
        obtain ⟨v5_42, hv5_42, hf⟩ := ltE hf
        refine R_istore dX10_finds_42 (by decide) hv5_42 rfl ?_
        refine R_iload_n dX10_finds_44 rfl rfl ?_
        refine R_iconst dX10_finds_45 (v := 1) rfl ?_
        refine R_icmp_ne dX10_finds_46 rfl (fun h46 => ?_) (fun h46 => ?_)
        · replace hf := inegE hf h46
          refine R_iload_n dX10_finds_110 rfl rfl ?_
          refine R_iconst dX10_finds_111 (v := 2) rfl ?_
          refine R_icmp_ne dX10_finds_112 rfl (fun h112 => ?_) (fun h112 => ?_)
          · replace hf := inegE hf h112
            refine R_iload dX10_finds_139 rfl ?_
            refine R_aload_n dX10_finds_141 rfl rfl ?_
            refine R_getI (ki := 4) dX10_finds_142 cl10 flX10_16 o_84 ff10_4 rfl rfl ?_
            refine R_icmp_ne dX10_finds_145 rfl (fun h145 => ?_) (fun h145 => ?_)
            · replace hf := inegE hf h145
              refine R_iload dX10_finds_152 rfl ?_
              refine R_aload_n dX10_finds_154 rfl rfl ?_
              refine R_getI (ki := 6) dX10_finds_155 cl10 flX10_23 o_84 ff10_6 rfl rfl ?_
              refine R_icmp_ne dX10_finds_158 rfl (fun h158 => ?_) (fun h158 => ?_)
              · replace hf := inegE hf h158
                refine R_iconst dX10_finds_165 (v := 0) rfl ?_
                refine R_istore_n dX10_finds_166 rfl (by decide) rfl rfl ?_
                refine R_iconst dX10_finds_167 (v := 0) rfl ?_
                refine R_istore_n dX10_finds_168 rfl (by decide) rfl rfl ?_
                refine R_aload_n dX10_finds_169 rfl rfl ?_
                refine R_getR dX10_finds_170 cl10 flX10_45 o_84 ff10_25 (fr10_25 _) a_92.1 ?_
                refine R_iload dX10_finds_173 rfl ?_
                refine R_iload_n dX10_finds_175 rfl rfl ?_
                obtain ⟨hg2, hf⟩ := gdE hf
                obtain ⟨M176, hM176, hf⟩ := ltE hf
                refine R_iastore dX10_finds_176 a_92 hg2.1 hg2.2 hM176 ?_
                refine R_aload_n dX10_finds_177 rfl rfl ?_
                refine R_iload dX10_finds_178 rfl ?_
                refine R_iload dX10_finds_180 rfl ?_
                obtain ⟨p182, hp182, hf⟩ := bdE hf
                refine R_callV (As := [aI v4, aI v5_42]) (st := []) dX10_finds_182 (ct_X10_bracket _ _ _  hp182) mwX10_bracket mvX10_bracket mlX10_267 cl10 o_84 rfl rfl ⟨nle, nle, nle, nle⟩ nle rfl ?_
                obtain ⟨v4_185, hv4_185, hf⟩ := ltE hf
                refine R_iinc dX10_finds_185 rfl rfl hv4_185 (by decide) rfl ?_
                refine R_goto dX10_finds_188 rfl ?_
                exact R_subk (ih _ _ _ _ _ _  hf) ⟨rfl, rfl, rfl, rfl, rfl, trivial⟩
              · replace hf := iposE hf h158
                refine R_iconst dX10_finds_161 (v := 2) rfl ?_
                refine R_goto dX10_finds_162 rfl ?_
                refine R_istore_n dX10_finds_166 rfl (by decide) rfl rfl ?_
                refine R_iconst dX10_finds_167 (v := 0) rfl ?_
                refine R_istore_n dX10_finds_168 rfl (by decide) rfl rfl ?_
                refine R_aload_n dX10_finds_169 rfl rfl ?_
                refine R_getR dX10_finds_170 cl10 flX10_45 o_84 ff10_25 (fr10_25 _) a_92.1 ?_
                refine R_iload dX10_finds_173 rfl ?_
                refine R_iload_n dX10_finds_175 rfl rfl ?_
                obtain ⟨hg3, hf⟩ := gdE hf
                obtain ⟨M176, hM176, hf⟩ := ltE hf
                refine R_iastore dX10_finds_176 a_92 hg3.1 hg3.2 hM176 ?_
                refine R_aload_n dX10_finds_177 rfl rfl ?_
                refine R_iload dX10_finds_178 rfl ?_
                refine R_iload dX10_finds_180 rfl ?_
                obtain ⟨p182, hp182, hf⟩ := bdE hf
                refine R_callV (As := [aI v4, aI v5_42]) (st := []) dX10_finds_182 (ct_X10_bracket _ _ _  hp182) mwX10_bracket mvX10_bracket mlX10_267 cl10 o_84 rfl rfl ⟨nle, nle, nle, nle⟩ nle rfl ?_
                obtain ⟨v4_185, hv4_185, hf⟩ := ltE hf
                refine R_iinc dX10_finds_185 rfl rfl hv4_185 (by decide) rfl ?_
                refine R_goto dX10_finds_188 rfl ?_
                exact R_subk (ih _ _ _ _ _ _  hf) ⟨rfl, rfl, rfl, rfl, rfl, trivial⟩
            · replace hf := iposE hf h145
              refine R_iconst dX10_finds_148 (v := 1) rfl ?_
              refine R_goto dX10_finds_149 rfl ?_
              refine R_istore_n dX10_finds_166 rfl (by decide) rfl rfl ?_
              refine R_iconst dX10_finds_167 (v := 0) rfl ?_
              refine R_istore_n dX10_finds_168 rfl (by decide) rfl rfl ?_
              refine R_aload_n dX10_finds_169 rfl rfl ?_
              refine R_getR dX10_finds_170 cl10 flX10_45 o_84 ff10_25 (fr10_25 _) a_92.1 ?_
              refine R_iload dX10_finds_173 rfl ?_
              refine R_iload_n dX10_finds_175 rfl rfl ?_
              obtain ⟨hg4, hf⟩ := gdE hf
              obtain ⟨M176, hM176, hf⟩ := ltE hf
              refine R_iastore dX10_finds_176 a_92 hg4.1 hg4.2 hM176 ?_
              refine R_aload_n dX10_finds_177 rfl rfl ?_
              refine R_iload dX10_finds_178 rfl ?_
              refine R_iload dX10_finds_180 rfl ?_
              obtain ⟨p182, hp182, hf⟩ := bdE hf
              refine R_callV (As := [aI v4, aI v5_42]) (st := []) dX10_finds_182 (ct_X10_bracket _ _ _  hp182) mwX10_bracket mvX10_bracket mlX10_267 cl10 o_84 rfl rfl ⟨nle, nle, nle, nle⟩ nle rfl ?_
              obtain ⟨v4_185, hv4_185, hf⟩ := ltE hf
              refine R_iinc dX10_finds_185 rfl rfl hv4_185 (by decide) rfl ?_
              refine R_goto dX10_finds_188 rfl ?_
              exact R_subk (ih _ _ _ _ _ _  hf) ⟨rfl, rfl, rfl, rfl, rfl, trivial⟩
          · replace hf := iposE hf h112
            refine R_iload dX10_finds_115 rfl ?_
            refine R_bipush dX10_finds_117 (v := 10) rfl ?_
            refine R_icmp_ne dX10_finds_119 rfl (fun h119 => ?_) (fun h119 => ?_)
            · replace hf := inegE hf h119
              refine R_iconst dX10_finds_126 (v := 2) rfl ?_
              refine R_istore_n dX10_finds_127 rfl (by decide) rfl rfl ?_
              refine R_aload_n dX10_finds_128 rfl rfl ?_
              refine R_getR dX10_finds_129 cl10 flX10_45 o_84 ff10_25 (fr10_25 _) a_92.1 ?_
              refine R_iload dX10_finds_132 rfl ?_
              refine R_iload_n dX10_finds_134 rfl rfl ?_
              obtain ⟨hg5, hf⟩ := gdE hf
              obtain ⟨M135, hM135, hf⟩ := ltE hf
              refine R_iastore dX10_finds_135 a_92 hg5.1 hg5.2 hM135 ?_
              refine R_goto dX10_finds_136 rfl ?_
              obtain ⟨v4_185, hv4_185, hf⟩ := ltE hf
              refine R_iinc dX10_finds_185 rfl rfl hv4_185 (by decide) rfl ?_
              refine R_goto dX10_finds_188 rfl ?_
              exact R_subk (ih _ _ _ _ _ _  hf) ⟨rfl, rfl, rfl, rfl, rfl, trivial⟩
            · replace hf := iposE hf h119
              refine R_iconst dX10_finds_122 (v := 0) rfl ?_
              refine R_goto dX10_finds_123 rfl ?_
              refine R_istore_n dX10_finds_127 rfl (by decide) rfl rfl ?_
              refine R_aload_n dX10_finds_128 rfl rfl ?_
              refine R_getR dX10_finds_129 cl10 flX10_45 o_84 ff10_25 (fr10_25 _) a_92.1 ?_
              refine R_iload dX10_finds_132 rfl ?_
              refine R_iload_n dX10_finds_134 rfl rfl ?_
              obtain ⟨hg6, hf⟩ := gdE hf
              obtain ⟨M135, hM135, hf⟩ := ltE hf
              refine R_iastore dX10_finds_135 a_92 hg6.1 hg6.2 hM135 ?_
              refine R_goto dX10_finds_136 rfl ?_
              obtain ⟨v4_185, hv4_185, hf⟩ := ltE hf
              refine R_iinc dX10_finds_185 rfl rfl hv4_185 (by decide) rfl ?_
              refine R_goto dX10_finds_188 rfl ?_
              exact R_subk (ih _ _ _ _ _ _  hf) ⟨rfl, rfl, rfl, rfl, rfl, trivial⟩
        · replace hf := iposE hf h46
          refine R_aload_n dX10_finds_49 rfl rfl ?_
          refine R_getR dX10_finds_50 cl10 flX10_45 o_84 ff10_25 (fr10_25 _) a_92.1 ?_
          refine R_iload dX10_finds_53 rfl ?_
          refine R_iconst dX10_finds_55 (v := 1) rfl ?_
          obtain ⟨hg7, hf⟩ := gdE hf
          obtain ⟨M56, hM56, hf⟩ := ltE hf
          refine R_iastore dX10_finds_56 a_92 hg7.1 hg7.2 hM56 ?_
          refine R_iload dX10_finds_57 rfl ?_
          refine R_aload_n dX10_finds_59 rfl rfl ?_
          refine R_getI (ki := 4) dX10_finds_60 cl10 flX10_16 o_84 ff10_4 rfl rfl ?_
          refine R_icmp_ne dX10_finds_63 rfl (fun h63 => ?_) (fun h63 => ?_)
          · replace hf := inegE hf h63
            refine R_iconst dX10_finds_74 (v := 0) rfl ?_
            refine R_istore dX10_finds_75 (by decide) rfl rfl ?_
            refine R_iload dX10_finds_77 rfl ?_
            refine R_aload_n dX10_finds_79 rfl rfl ?_
            refine R_getI (ki := 5) dX10_finds_80 cl10 flX10_20 o_84 ff10_5 rfl rfl ?_
            refine R_icmp_ne dX10_finds_83 rfl (fun h83 => ?_) (fun h83 => ?_)
            · replace hf := inegE hf h83
              refine R_iconst dX10_finds_94 (v := 0) rfl ?_
              refine R_istore_n dX10_finds_95 rfl (by decide) rfl rfl ?_
              refine R_iload dX10_finds_96 rfl ?_
              refine R_if_eq dX10_finds_98 rfl (fun _ => ?_) (fun h => absurd h (by decide))
              refine R_iconst dX10_finds_105 (v := 1) rfl ?_
              refine R_istore_n dX10_finds_106 rfl (by decide) rfl rfl ?_
              refine R_goto dX10_finds_107 rfl ?_
              obtain ⟨v4_185, hv4_185, hf⟩ := ltE hf
              refine R_iinc dX10_finds_185 rfl rfl hv4_185 (by decide) rfl ?_
              refine R_goto dX10_finds_188 rfl ?_
              exact R_subk (ih _ _ _ _ _ _  hf) ⟨rfl, rfl, rfl, rfl, rfl, trivial⟩
            · replace hf := iposE hf h83
              refine R_iload_n dX10_finds_86 rfl rfl ?_
              refine R_if_ne dX10_finds_87 rfl (fun h87 => ?_) (fun h87 => ?_)
              · replace hf := inegE hf h87
                refine R_iconst dX10_finds_94 (v := 0) rfl ?_
                refine R_istore_n dX10_finds_95 rfl (by decide) rfl rfl ?_
                refine R_iload dX10_finds_96 rfl ?_
                refine R_if_eq dX10_finds_98 rfl (fun _ => ?_) (fun h => absurd h (by decide))
                refine R_iconst dX10_finds_105 (v := 1) rfl ?_
                refine R_istore_n dX10_finds_106 rfl (by decide) rfl rfl ?_
                refine R_goto dX10_finds_107 rfl ?_
                obtain ⟨v4_185, hv4_185, hf⟩ := ltE hf
                refine R_iinc dX10_finds_185 rfl rfl hv4_185 (by decide) rfl ?_
                refine R_goto dX10_finds_188 rfl ?_
                exact R_subk (ih _ _ _ _ _ _  hf) ⟨rfl, rfl, rfl, rfl, rfl, trivial⟩
              · replace hf := iposE hf h87
                refine R_iconst dX10_finds_90 (v := 1) rfl ?_
                refine R_goto dX10_finds_91 rfl ?_
                refine R_istore_n dX10_finds_95 rfl (by decide) rfl rfl ?_
                refine R_iload dX10_finds_96 rfl ?_
                refine R_if_eq dX10_finds_98 rfl (fun _ => ?_) (fun h => absurd h (by decide))
                refine R_iconst dX10_finds_105 (v := 1) rfl ?_
                refine R_istore_n dX10_finds_106 rfl (by decide) rfl rfl ?_
                refine R_goto dX10_finds_107 rfl ?_
                obtain ⟨v4_185, hv4_185, hf⟩ := ltE hf
                refine R_iinc dX10_finds_185 rfl rfl hv4_185 (by decide) rfl ?_
                refine R_goto dX10_finds_188 rfl ?_
                exact R_subk (ih _ _ _ _ _ _  hf) ⟨rfl, rfl, rfl, rfl, rfl, trivial⟩
          · replace hf := iposE hf h63
            refine R_iload_n dX10_finds_66 rfl rfl ?_
            refine R_if_ne dX10_finds_67 rfl (fun h67 => ?_) (fun h67 => ?_)
            · replace hf := inegE hf h67
              refine R_iconst dX10_finds_74 (v := 0) rfl ?_
              refine R_istore dX10_finds_75 (by decide) rfl rfl ?_
              refine R_iload dX10_finds_77 rfl ?_
              refine R_aload_n dX10_finds_79 rfl rfl ?_
              refine R_getI (ki := 5) dX10_finds_80 cl10 flX10_20 o_84 ff10_5 rfl rfl ?_
              refine R_icmp_ne dX10_finds_83 rfl (fun h83 => ?_) (fun h83 => ?_)
              · replace hf := inegE hf h83
                refine R_iconst dX10_finds_94 (v := 0) rfl ?_
                refine R_istore_n dX10_finds_95 rfl (by decide) rfl rfl ?_
                refine R_iload dX10_finds_96 rfl ?_
                refine R_if_eq dX10_finds_98 rfl (fun _ => ?_) (fun h => absurd h (by decide))
                refine R_iconst dX10_finds_105 (v := 1) rfl ?_
                refine R_istore_n dX10_finds_106 rfl (by decide) rfl rfl ?_
                refine R_goto dX10_finds_107 rfl ?_
                obtain ⟨v4_185, hv4_185, hf⟩ := ltE hf
                refine R_iinc dX10_finds_185 rfl rfl hv4_185 (by decide) rfl ?_
                refine R_goto dX10_finds_188 rfl ?_
                exact R_subk (ih _ _ _ _ _ _  hf) ⟨rfl, rfl, rfl, rfl, rfl, trivial⟩
              · replace hf := iposE hf h83
                refine R_iload_n dX10_finds_86 rfl rfl ?_
                refine R_if_ne dX10_finds_87 rfl (fun h87 => ?_) (fun h87 => ?_)
                · replace hf := inegE hf h87
                  refine R_iconst dX10_finds_94 (v := 0) rfl ?_
                  refine R_istore_n dX10_finds_95 rfl (by decide) rfl rfl ?_
                  refine R_iload dX10_finds_96 rfl ?_
                  refine R_if_eq dX10_finds_98 rfl (fun _ => ?_) (fun h => absurd h (by decide))
                  refine R_iconst dX10_finds_105 (v := 1) rfl ?_
                  refine R_istore_n dX10_finds_106 rfl (by decide) rfl rfl ?_
                  refine R_goto dX10_finds_107 rfl ?_
                  obtain ⟨v4_185, hv4_185, hf⟩ := ltE hf
                  refine R_iinc dX10_finds_185 rfl rfl hv4_185 (by decide) rfl ?_
                  refine R_goto dX10_finds_188 rfl ?_
                  exact R_subk (ih _ _ _ _ _ _  hf) ⟨rfl, rfl, rfl, rfl, rfl, trivial⟩
                · replace hf := iposE hf h87
                  refine R_iconst dX10_finds_90 (v := 1) rfl ?_
                  refine R_goto dX10_finds_91 rfl ?_
                  refine R_istore_n dX10_finds_95 rfl (by decide) rfl rfl ?_
                  refine R_iload dX10_finds_96 rfl ?_
                  refine R_if_eq dX10_finds_98 rfl (fun _ => ?_) (fun h => absurd h (by decide))
                  refine R_iconst dX10_finds_105 (v := 1) rfl ?_
                  refine R_istore_n dX10_finds_106 rfl (by decide) rfl rfl ?_
                  refine R_goto dX10_finds_107 rfl ?_
                  obtain ⟨v4_185, hv4_185, hf⟩ := ltE hf
                  refine R_iinc dX10_finds_185 rfl rfl hv4_185 (by decide) rfl ?_
                  refine R_goto dX10_finds_188 rfl ?_
                  exact R_subk (ih _ _ _ _ _ _  hf) ⟨rfl, rfl, rfl, rfl, rfl, trivial⟩
            · replace hf := iposE hf h67
              refine R_iconst dX10_finds_70 (v := 1) rfl ?_
              refine R_goto dX10_finds_71 rfl ?_
              refine R_istore dX10_finds_75 (by decide) rfl rfl ?_
              refine R_iload dX10_finds_77 rfl ?_
              refine R_aload_n dX10_finds_79 rfl rfl ?_
              refine R_getI (ki := 5) dX10_finds_80 cl10 flX10_20 o_84 ff10_5 rfl rfl ?_
              refine R_icmp_ne dX10_finds_83 rfl (fun h83 => ?_) (fun h83 => ?_)
              · replace hf := inegE hf h83
                refine R_iconst dX10_finds_94 (v := 0) rfl ?_
                refine R_istore_n dX10_finds_95 rfl (by decide) rfl rfl ?_
                refine R_iload dX10_finds_96 rfl ?_
                refine R_if_eq dX10_finds_98 rfl (fun h => absurd h (by decide)) (fun _ => ?_)
                refine R_iconst dX10_finds_101 (v := 0) rfl ?_
                refine R_goto dX10_finds_102 rfl ?_
                refine R_istore_n dX10_finds_106 rfl (by decide) rfl rfl ?_
                refine R_goto dX10_finds_107 rfl ?_
                obtain ⟨v4_185, hv4_185, hf⟩ := ltE hf
                refine R_iinc dX10_finds_185 rfl rfl hv4_185 (by decide) rfl ?_
                refine R_goto dX10_finds_188 rfl ?_
                exact R_subk (ih _ _ _ _ _ _  hf) ⟨rfl, rfl, rfl, rfl, rfl, trivial⟩
              · replace hf := iposE hf h83
                refine R_iload_n dX10_finds_86 rfl rfl ?_
                refine R_if_ne dX10_finds_87 rfl (fun h87 => ?_) (fun h87 => ?_)
                · replace hf := inegE hf h87
                  refine R_iconst dX10_finds_94 (v := 0) rfl ?_
                  refine R_istore_n dX10_finds_95 rfl (by decide) rfl rfl ?_
                  refine R_iload dX10_finds_96 rfl ?_
                  refine R_if_eq dX10_finds_98 rfl (fun h => absurd h (by decide)) (fun _ => ?_)
                  refine R_iconst dX10_finds_101 (v := 0) rfl ?_
                  refine R_goto dX10_finds_102 rfl ?_
                  refine R_istore_n dX10_finds_106 rfl (by decide) rfl rfl ?_
                  refine R_goto dX10_finds_107 rfl ?_
                  obtain ⟨v4_185, hv4_185, hf⟩ := ltE hf
                  refine R_iinc dX10_finds_185 rfl rfl hv4_185 (by decide) rfl ?_
                  refine R_goto dX10_finds_188 rfl ?_
                  exact R_subk (ih _ _ _ _ _ _  hf) ⟨rfl, rfl, rfl, rfl, rfl, trivial⟩
                · replace hf := iposE hf h87
                  refine R_iconst dX10_finds_90 (v := 1) rfl ?_
                  refine R_goto dX10_finds_91 rfl ?_
                  refine R_istore_n dX10_finds_95 rfl (by decide) rfl rfl ?_
                  refine R_iload dX10_finds_96 rfl ?_
                  refine R_if_eq dX10_finds_98 rfl (fun h => absurd h (by decide)) (fun _ => ?_)
                  refine R_iconst dX10_finds_101 (v := 0) rfl ?_
                  refine R_goto dX10_finds_102 rfl ?_
                  refine R_istore_n dX10_finds_106 rfl (by decide) rfl rfl ?_
                  refine R_goto dX10_finds_107 rfl ?_
                  obtain ⟨v4_185, hv4_185, hf⟩ := ltE hf
                  refine R_iinc dX10_finds_185 rfl rfl hv4_185 (by decide) rfl ?_
                  refine R_goto dX10_finds_188 rfl ?_
                  exact R_subk (ih _ _ _ _ _ _  hf) ⟨rfl, rfl, rfl, rfl, rfl, trivial⟩
      · replace hf := iposE hf h26
        refine R_goto dX10_finds_29 rfl ?_
        obtain ⟨v4_185, hv4_185, hf⟩ := ltE hf
        refine R_iinc dX10_finds_185 rfl rfl hv4_185 (by decide) rfl ?_
        refine R_goto dX10_finds_188 rfl ?_
        exact R_subk (ih _ _ _ _ _ _  hf) ⟨rfl, rfl, rfl, rfl, rfl, trivial⟩
set_option maxRecDepth 20000 in
theorem ct_X10_finds {G : Gl} (v1 : Int) (M : Mem) {res : Mem}  (hf : f_X10_finds v1 M = some res) : Ct G miX10_finds yX10_finds 2 [aR 84, aI v1] M none res := by
  refine Ct.of (L := [some (aR 84), some (aI v1), none, none, none, none, none]) mwX10_finds rfl trivial nle ⟨rfl, rfl, trivial⟩ ?_
  unfold f_X10_finds at hf
  refine R_aload_n dX10_finds_0 rfl rfl ?_
  refine R_iconst dX10_finds_1 (v := 0) rfl ?_
  obtain ⟨M2, hM2, hf⟩ := ltE hf
  refine R_put (ki := 26) dX10_finds_2 cl10 flX10_264 o_84 (Or.inl fz10_26) rfl hM2 ?_
  refine R_iconst dX10_finds_5 (v := 0) rfl ?_
  refine R_istore_n dX10_finds_6 rfl (by decide) rfl rfl ?_
  refine R_iconst dX10_finds_7 (v := 0) rfl ?_
  refine R_istore_n dX10_finds_8 rfl (by decide) rfl rfl ?_
  refine R_iconst dX10_finds_9 (v := 0) rfl ?_
  refine R_istore dX10_finds_10 (by decide) rfl rfl ?_
  exact R_subk (rn_X10_finds_L12 4096 _ _ _ _ _ _  hf) ⟨rfl, rfl, rfl, rfl, rfl, trivial⟩
/-! BracketHallModel.load(I)I -/
def f_X10_load_L66 : Nat → Int → Int → Mem → Option (Int × Mem)
  | 0, _, _, _ => none
  | n + 1, v1, v3, M =>
    if v1 ≤ v3 then
      (f_X10_forgets M).bind fun p93 =>
      (f_X10_finds (-1) p93).bind fun p98 =>
      some (p98 84 26, p98)
    else
      if (0 : Int) ≤ v3 ∧ v3 < 600 then
      if (0 : Int) ≤ w32 (14 + v3) ∧ w32 (14 + v3) < 254 then
      lt1 (up M 90 (w32 (14 + v3)) (M 91 v3)) fun M85 =>
      lt1 (w32 (v3 + 1)) fun v3_86 =>
      f_X10_load_L66 n v1 v3_86 M85
      else none
      else none
def f_X10_load (v1 : Int) (M : Mem) : Option (Int × Mem) :=
  lt1 (up M 84 0 0) fun M2 =>
  (f_X10_isIn v1 0 (M2 84 16) M2).bind fun p12 =>
  if p12 = 0 then
    (f_X10_throwsIf 1 1 M2).bind fun p24 =>
    if p24.1 = 0 then
      lt1 (up p24.2 84 16 0) fun M34 =>
      (f_X10_refusal 0 v1 M34).bind fun p40 =>
      if p40 = 0 then
        lt1 (up M34 90 0 v1) fun M56 =>
        lt1 (up M56 90 1 0) fun M63 =>
        f_X10_load_L66 4096 v1 0 M63
      else
        some (p40, M34)
    else
      some (0, p24.2)
  else
    (f_X10_throwsIf 0 1 M2).bind fun p24 =>
    if p24.1 = 0 then
      lt1 (up p24.2 84 16 0) fun M34 =>
      (f_X10_refusal 0 v1 M34).bind fun p40 =>
      if p40 = 0 then
        lt1 (up M34 90 0 v1) fun M56 =>
        lt1 (up M56 90 1 0) fun M63 =>
        f_X10_load_L66 4096 v1 0 M63
      else
        some (p40, M34)
    else
      some (0, p24.2)
set_option maxRecDepth 20000 in
theorem rn_X10_load_L66 {G : Gl} : ∀ (n : Nat) (v1 : Int) (v3 : Int) (M : Mem) (res : Int × Mem),  f_X10_load_L66 n v1 v3 M = some res → Run G false (rmD 3 0 0) miX10_load (ZP G (some (aI res.1)) res.2) 0 0 66 [some (aR 84), some (aI v1), none, some (aI v3)] [] M := by
  intro n
  induction n with
  | zero => intro v1 v3 M res  hf; cases hf
  | succ n ih =>
    intro v1 v3 M res  hf
    rw [f_X10_load_L66] at hf
    refine R_iload_n dX10_load_66 rfl rfl ?_
    refine R_iload_n dX10_load_67 rfl rfl ?_
    refine R_icmp_ge dX10_load_68 rfl (fun h68 => ?_) (fun h68 => ?_)
    · replace hf := iposE hf h68
      refine R_aload_n dX10_load_92 rfl rfl ?_
      obtain ⟨p93, hp93, hf⟩ := bdE hf
      refine R_callV (As := []) (st := []) dX10_load_93 (ct_X10_forgets  _  hp93) mwX10_forgets mvX10_forgets mlX10_248 cl10 o_84 rfl rfl ⟨nle, nle, nle, nle⟩ nle rfl ?_
      refine R_aload_n dX10_load_96 rfl rfl ?_
      refine R_iconst dX10_load_97 (v := (-1)) rfl ?_
      obtain ⟨p98, hp98, hf⟩ := bdE hf
      refine R_callV (As := [aI (-1)]) (st := []) dX10_load_98 (ct_X10_finds _ _  hp98) mwX10_finds mvX10_finds mlX10_261 cl10 o_84 rfl rfl ⟨nle, nle, nle, nle⟩ nle rfl ?_
      refine R_aload_n dX10_load_101 rfl rfl ?_
      refine R_getI (ki := 26) dX10_load_102 cl10 flX10_264 o_84 ff10_26 rfl rfl ?_
      cases hf; exact E_iret dX10_load_105 rfl rfl rfl
    · replace hf := inegE hf h68
      refine R_aload_n dX10_load_71 rfl rfl ?_
      refine R_getR dX10_load_72 cl10 flX10_35 o_84 ff10_14 (fr10_14 _) a_90.1 ?_
      refine R_bipush dX10_load_75 (v := 14) rfl ?_
      refine R_iload_n dX10_load_77 rfl rfl ?_
      refine R_iadd dX10_load_78 rfl ?_
      refine R_aload_n dX10_load_79 rfl rfl ?_
      refine R_getR dX10_load_80 cl10 flX10_38 o_84 ff10_15 (fr10_15 _) a_91.1 ?_
      refine R_iload_n dX10_load_83 rfl rfl ?_
      obtain ⟨hg1, hf⟩ := gdE hf
      refine R_baload dX10_load_84 a_91 hg1.1 hg1.2 rfl ?_
      obtain ⟨hg2, hf⟩ := gdE hf
      obtain ⟨M85, hM85, hf⟩ := ltE hf
      refine R_iastore dX10_load_85 a_90 hg2.1 hg2.2 hM85 ?_
      obtain ⟨v3_86, hv3_86, hf⟩ := ltE hf
      refine R_iinc dX10_load_86 rfl rfl hv3_86 (by decide) rfl ?_
      refine R_goto dX10_load_89 rfl ?_
      exact R_subk (ih _ _ _ _  hf) ⟨rfl, rfl, rfl, trivial⟩
set_option maxRecDepth 20000 in
theorem ct_X10_load {G : Gl} (v1 : Int) (M : Mem) {res : Int × Mem}  (hf : f_X10_load v1 M = some res) : Ct G miX10_load yX10_load 3 [aR 84, aI v1] M (some (aI res.1)) res.2 := by
  refine Ct.of (L := [some (aR 84), some (aI v1), none, none]) mwX10_load rfl trivial nle ⟨rfl, rfl, trivial⟩ ?_
  unfold f_X10_load at hf
  refine R_aload_n dX10_load_0 rfl rfl ?_
  refine R_iconst dX10_load_1 (v := 0) rfl ?_
  obtain ⟨M2, hM2, hf⟩ := ltE hf
  refine R_put (ki := 0) dX10_load_2 cl10 flX10_117 o_84 (Or.inl fz10_0) rfl hM2 ?_
  refine R_aload_n dX10_load_5 rfl rfl ?_
  refine R_iload_n dX10_load_6 rfl rfl ?_
  refine R_iconst dX10_load_7 (v := 0) rfl ?_
  refine R_aload_n dX10_load_8 rfl rfl ?_
  refine R_getI (ki := 16) dX10_load_9 cl10 flX10_120 o_84 ff10_16 rfl rfl ?_
  obtain ⟨p12, hp12, hf⟩ := bdE hf
  refine R_callS (As := [aI v1, aI 0, aI (M2 84 16)]) (st := [aR 84]) dX10_load_12 (ct_X10_isIn _ _ _ _  hp12) mwX10_isIn msX10_isIn mlX10_130 rfl ⟨nle, nle, nle, nle⟩ nle rfl ?_
  refine R_if_ne dX10_load_15 rfl (fun h15 => ?_) (fun h15 => ?_)
  · replace hf := inegE hf h15
    refine R_iconst dX10_load_22 (v := 0) rfl ?_
    refine R_iconst dX10_load_23 (v := 1) rfl ?_
    obtain ⟨p24, hp24, hf⟩ := bdE hf
    refine R_callV (As := [aI 0, aI 1]) (st := []) dX10_load_24 (ct_X10_throwsIf _ _ _  hp24) mwX10_throwsIf mvX10_throwsIf mlX10_227 cl10 o_84 rfl rfl ⟨nle, nle, nle, nle⟩ nle rfl ?_
    refine R_if_eq dX10_load_27 rfl (fun h27 => ?_) (fun h27 => ?_)
    · replace hf := iposE hf h27
      refine R_aload_n dX10_load_32 rfl rfl ?_
      refine R_iconst dX10_load_33 (v := 0) rfl ?_
      obtain ⟨M34, hM34, hf⟩ := ltE hf
      refine R_put (ki := 16) dX10_load_34 cl10 flX10_120 o_84 (Or.inl fz10_16) rfl hM34 ?_
      refine R_aload_n dX10_load_37 rfl rfl ?_
      refine R_iconst dX10_load_38 (v := 0) rfl ?_
      refine R_iload_n dX10_load_39 rfl rfl ?_
      obtain ⟨p40, hp40, hf⟩ := bdE hf
      refine R_callV (As := [aI 0, aI v1]) (st := []) dX10_load_40 (ct_X10_refusal _ _ _  hp40) mwX10_refusal mvX10_refusal mlX10_257 cl10 o_84 rfl rfl ⟨nle, nle, nle, nle⟩ nle rfl ?_
      refine R_istore_n dX10_load_43 rfl (by decide) rfl rfl ?_
      refine R_iload_n dX10_load_44 rfl rfl ?_
      refine R_if_eq dX10_load_45 rfl (fun h45 => ?_) (fun h45 => ?_)
      · replace hf := iposE hf h45
        refine R_aload_n dX10_load_50 rfl rfl ?_
        refine R_getR dX10_load_51 cl10 flX10_35 o_84 ff10_14 (fr10_14 _) a_90.1 ?_
        refine R_iconst dX10_load_54 (v := 0) rfl ?_
        refine R_iload_n dX10_load_55 rfl rfl ?_
        obtain ⟨M56, hM56, hf⟩ := ltE hf
        refine R_iastore dX10_load_56 a_90 (by decide) (by decide) hM56 ?_
        refine R_aload_n dX10_load_57 rfl rfl ?_
        refine R_getR dX10_load_58 cl10 flX10_35 o_84 ff10_14 (fr10_14 _) a_90.1 ?_
        refine R_iconst dX10_load_61 (v := 1) rfl ?_
        refine R_iconst dX10_load_62 (v := 0) rfl ?_
        obtain ⟨M63, hM63, hf⟩ := ltE hf
        refine R_iastore dX10_load_63 a_90 (by decide) (by decide) hM63 ?_
        refine R_iconst dX10_load_64 (v := 0) rfl ?_
        refine R_istore_n dX10_load_65 rfl (by decide) rfl rfl ?_
        exact R_subk (rn_X10_load_L66 4096 _ _ _ _  hf) ⟨rfl, rfl, rfl, trivial⟩
      · replace hf := inegE hf h45
        refine R_iload_n dX10_load_48 rfl rfl ?_
        cases hf; exact E_iret dX10_load_49 rfl rfl rfl
    · replace hf := inegE hf h27
      refine R_iconst dX10_load_30 (v := 0) rfl ?_
      cases hf; exact E_iret dX10_load_31 rfl rfl rfl
  · replace hf := iposE hf h15
    refine R_iconst dX10_load_18 (v := 1) rfl ?_
    refine R_goto dX10_load_19 rfl ?_
    refine R_iconst dX10_load_23 (v := 1) rfl ?_
    obtain ⟨p24, hp24, hf⟩ := bdE hf
    refine R_callV (As := [aI 1, aI 1]) (st := []) dX10_load_24 (ct_X10_throwsIf _ _ _  hp24) mwX10_throwsIf mvX10_throwsIf mlX10_227 cl10 o_84 rfl rfl ⟨nle, nle, nle, nle⟩ nle rfl ?_
    refine R_if_eq dX10_load_27 rfl (fun h27 => ?_) (fun h27 => ?_)
    · replace hf := iposE hf h27
      refine R_aload_n dX10_load_32 rfl rfl ?_
      refine R_iconst dX10_load_33 (v := 0) rfl ?_
      obtain ⟨M34, hM34, hf⟩ := ltE hf
      refine R_put (ki := 16) dX10_load_34 cl10 flX10_120 o_84 (Or.inl fz10_16) rfl hM34 ?_
      refine R_aload_n dX10_load_37 rfl rfl ?_
      refine R_iconst dX10_load_38 (v := 0) rfl ?_
      refine R_iload_n dX10_load_39 rfl rfl ?_
      obtain ⟨p40, hp40, hf⟩ := bdE hf
      refine R_callV (As := [aI 0, aI v1]) (st := []) dX10_load_40 (ct_X10_refusal _ _ _  hp40) mwX10_refusal mvX10_refusal mlX10_257 cl10 o_84 rfl rfl ⟨nle, nle, nle, nle⟩ nle rfl ?_
      refine R_istore_n dX10_load_43 rfl (by decide) rfl rfl ?_
      refine R_iload_n dX10_load_44 rfl rfl ?_
      refine R_if_eq dX10_load_45 rfl (fun h45 => ?_) (fun h45 => ?_)
      · replace hf := iposE hf h45
        refine R_aload_n dX10_load_50 rfl rfl ?_
        refine R_getR dX10_load_51 cl10 flX10_35 o_84 ff10_14 (fr10_14 _) a_90.1 ?_
        refine R_iconst dX10_load_54 (v := 0) rfl ?_
        refine R_iload_n dX10_load_55 rfl rfl ?_
        obtain ⟨M56, hM56, hf⟩ := ltE hf
        refine R_iastore dX10_load_56 a_90 (by decide) (by decide) hM56 ?_
        refine R_aload_n dX10_load_57 rfl rfl ?_
        refine R_getR dX10_load_58 cl10 flX10_35 o_84 ff10_14 (fr10_14 _) a_90.1 ?_
        refine R_iconst dX10_load_61 (v := 1) rfl ?_
        refine R_iconst dX10_load_62 (v := 0) rfl ?_
        obtain ⟨M63, hM63, hf⟩ := ltE hf
        refine R_iastore dX10_load_63 a_90 (by decide) (by decide) hM63 ?_
        refine R_iconst dX10_load_64 (v := 0) rfl ?_
        refine R_istore_n dX10_load_65 rfl (by decide) rfl rfl ?_
        exact R_subk (rn_X10_load_L66 4096 _ _ _ _  hf) ⟨rfl, rfl, rfl, trivial⟩
      · replace hf := inegE hf h45
        refine R_iload_n dX10_load_48 rfl rfl ?_
        cases hf; exact E_iret dX10_load_49 rfl rfl rfl
    · replace hf := inegE hf h27
      refine R_iconst dX10_load_30 (v := 0) rfl ?_
      cases hf; exact E_iret dX10_load_31 rfl rfl rfl
/-! BracketHallModel.errorPosition()I -/
def f_X10_errorPosition  (M : Mem) : Option (Int × Mem) :=
  lt1 (up M 84 0 0) fun M2 =>
  some (M2 84 23, M2)
set_option maxRecDepth 20000 in
theorem ct_X10_errorPosition {G : Gl}  (M : Mem) {res : Int × Mem}  (hf : f_X10_errorPosition  M = some res) : Ct G miX10_errorPosition yX10_errorPosition 0 [aR 84] M (some (aI res.1)) res.2 := by
  refine Ct.of (L := [some (aR 84)]) mwX10_errorPosition rfl trivial nle ⟨rfl, trivial⟩ ?_
  unfold f_X10_errorPosition at hf
  refine R_aload_n dX10_errorPosition_0 rfl rfl ?_
  refine R_iconst dX10_errorPosition_1 (v := 0) rfl ?_
  obtain ⟨M2, hM2, hf⟩ := ltE hf
  refine R_put (ki := 0) dX10_errorPosition_2 cl10 flX10_117 o_84 (Or.inl fz10_0) rfl hM2 ?_
  refine R_aload_n dX10_errorPosition_5 rfl rfl ?_
  refine R_getI (ki := 23) dX10_errorPosition_6 cl10 flX10_42 o_84 ff10_23 rfl rfl ?_
  cases hf; exact E_iret dX10_errorPosition_9 rfl rfl rfl
/-! BracketHallModel.findsPairs()V -/
def f_X10_findsPairs_L50 (k : Int → Int → Int → Mem → Option (Mem)) : Nat → Int → Int → Int → Mem → Option (Mem)
  | 0, _, _, _, _ => none
  | n + 1, v1, v2, v3, M =>
    if v3 < 0 then
      k v1 v2 v3 M
    else
      if (0 : Int) ≤ v3 ∧ v3 < 240 then
      if (0 : Int) ≤ M 97 v3 ∧ M 97 v3 < 240 then
      if (0 : Int) ≤ v2 ∧ v2 < 240 then
      if (M 94 (M 97 v3)) = (M 94 v2) then
        k v1 v2 v3 M
      else
        lt1 (w32 (v3 + (-1))) fun v3_74 =>
        f_X10_findsPairs_L50 k n v1 v2 v3_74 M
      else none
      else none
      else none
def f_X10_findsPairs_L9 : Nat → Int → Int → Mem → Option (Mem)
  | 0, _, _, _ => none
  | n + 1, v1, v2, M =>
    if (M 84 26) ≤ v2 then
      some M
    else
      if (0 : Int) ≤ v2 ∧ v2 < 240 then
      lt1 (up M 96 v2 (-1)) fun M23 =>
      if (M23 95 v2) = 0 then
        lt1 (w32 (v1 - 1)) fun v3_49 =>
        f_X10_findsPairs_L50 (fun v1 v2 v3 M =>
        if v3 < 0 then
          lt1 (w32 (v2 + 1)) fun v2_110 =>
          f_X10_findsPairs_L9 n v1 v2_110 M
        else
          if (0 : Int) ≤ v3 ∧ v3 < 240 then
          if (0 : Int) ≤ v2 ∧ v2 < 240 then
          lt1 (up M 96 v2 (M 97 v3)) fun M95 =>
          if (0 : Int) ≤ M95 97 v3 ∧ M95 97 v3 < 240 then
          lt1 (up M95 96 (M95 97 v3) v2) fun M107 =>
          lt1 (w32 (v2 + 1)) fun v2_110 =>
          f_X10_findsPairs_L9 n v3 v2_110 M107
          else none
          else none
          else none) 4096 v1 v2 v3_49 M23
      else
        if (0 : Int) ≤ v1 ∧ v1 < 240 then
        lt1 (up M23 97 v1 v2) fun M39 =>
        lt1 (w32 (v1 + 1)) fun v1_40 =>
        lt1 (w32 (v2 + 1)) fun v2_110 =>
        f_X10_findsPairs_L9 n v1_40 v2_110 M39
        else none
      else none
def f_X10_findsPairs  (M : Mem) : Option (Mem) :=
  (f_X10_finds (-1) M).bind fun p2 =>
  f_X10_findsPairs_L9 4096 0 0 p2
set_option maxRecDepth 20000 in
theorem rn_X10_findsPairs_L50 {G : Gl} (k : Int → Int → Int → Mem → Option (Mem)) (hk : ∀ (v1 : Int) (v2 : Int) (v3 : Int) (M : Mem) (res : Mem), k v1 v2 v3 M = some res → Run G false (rmD 3 0 0) miX10_findsPairs (ZP G none res) 0 0 80 [some (aR 84), some (aI v1), some (aI v2), some (aI v3)] [] M) : ∀ (n : Nat) (v1 : Int) (v2 : Int) (v3 : Int) (M : Mem) (res : Mem),  f_X10_findsPairs_L50 k n v1 v2 v3 M = some res → Run G false (rmD 3 0 0) miX10_findsPairs (ZP G none res) 0 0 50 [some (aR 84), some (aI v1), some (aI v2), some (aI v3)] [] M := by
  intro n
  induction n with
  | zero => intro v1 v2 v3 M res  hf; cases hf
  | succ n ih =>
    intro v1 v2 v3 M res  hf
    rw [f_X10_findsPairs_L50] at hf
    refine R_iload_n dX10_findsPairs_50 rfl rfl ?_
    refine R_if_lt dX10_findsPairs_51 rfl (fun h51 => ?_) (fun h51 => ?_)
    · replace hf := iposE hf h51
      exact R_subk (hk _ _ _ _ _  hf) ⟨rfl, rfl, rfl, rfl, trivial⟩
    · replace hf := inegE hf h51
      refine R_aload_n dX10_findsPairs_54 rfl rfl ?_
      refine R_getR dX10_findsPairs_55 cl10 flX10_51 o_84 ff10_28 (fr10_28 _) a_94.1 ?_
      refine R_aload_n dX10_findsPairs_58 rfl rfl ?_
      refine R_getR dX10_findsPairs_59 cl10 flX10_61 o_84 ff10_31 (fr10_31 _) a_97.1 ?_
      refine R_iload_n dX10_findsPairs_62 rfl rfl ?_
      obtain ⟨hg1, hf⟩ := gdE hf
      refine R_iaload dX10_findsPairs_63 a_97 hg1.1 hg1.2 rfl ?_
      obtain ⟨hg2, hf⟩ := gdE hf
      refine R_iaload dX10_findsPairs_64 a_94 hg2.1 hg2.2 rfl ?_
      refine R_aload_n dX10_findsPairs_65 rfl rfl ?_
      refine R_getR dX10_findsPairs_66 cl10 flX10_51 o_84 ff10_28 (fr10_28 _) a_94.1 ?_
      refine R_iload_n dX10_findsPairs_69 rfl rfl ?_
      obtain ⟨hg3, hf⟩ := gdE hf
      refine R_iaload dX10_findsPairs_70 a_94 hg3.1 hg3.2 rfl ?_
      refine R_icmp_eq dX10_findsPairs_71 rfl (fun h71 => ?_) (fun h71 => ?_)
      · replace hf := iposE hf h71
        exact R_subk (hk _ _ _ _ _  hf) ⟨rfl, rfl, rfl, rfl, trivial⟩
      · replace hf := inegE hf h71
        obtain ⟨v3_74, hv3_74, hf⟩ := ltE hf
        refine R_iinc dX10_findsPairs_74 rfl rfl hv3_74 (by decide) rfl ?_
        refine R_goto dX10_findsPairs_77 rfl ?_
        exact R_subk (ih _ _ _ _ _  hf) ⟨rfl, rfl, rfl, rfl, trivial⟩
set_option maxRecDepth 20000 in
theorem rn_X10_findsPairs_L9 {G : Gl} : ∀ (n : Nat) (v1 : Int) (v2 : Int) (M : Mem) (res : Mem),  f_X10_findsPairs_L9 n v1 v2 M = some res → Run G false (rmD 3 0 0) miX10_findsPairs (ZP G none res) 0 0 9 [some (aR 84), some (aI v1), some (aI v2), none] [] M := by
  intro n
  induction n with
  | zero => intro v1 v2 M res  hf; cases hf
  | succ n ih =>
    intro v1 v2 M res  hf
    rw [f_X10_findsPairs_L9] at hf
    refine R_iload_n dX10_findsPairs_9 rfl rfl ?_
    refine R_aload_n dX10_findsPairs_10 rfl rfl ?_
    refine R_getI (ki := 26) dX10_findsPairs_11 cl10 flX10_264 o_84 ff10_26 rfl rfl ?_
    refine R_icmp_ge dX10_findsPairs_14 rfl (fun h14 => ?_) (fun h14 => ?_)
    · replace hf := iposE hf h14
      cases hf; exact E_vret dX10_findsPairs_116 rfl rfl rfl
    · replace hf := inegE hf h14
      refine R_aload_n dX10_findsPairs_17 rfl rfl ?_
      refine R_getR dX10_findsPairs_18 cl10 flX10_58 o_84 ff10_30 (fr10_30 _) a_96.1 ?_
      refine R_iload_n dX10_findsPairs_21 rfl rfl ?_
      refine R_iconst dX10_findsPairs_22 (v := (-1)) rfl ?_
      obtain ⟨hg4, hf⟩ := gdE hf
      obtain ⟨M23, hM23, hf⟩ := ltE hf
      refine R_iastore dX10_findsPairs_23 a_96 hg4.1 hg4.2 hM23 ?_
      refine R_aload_n dX10_findsPairs_24 rfl rfl ?_
      refine R_getR dX10_findsPairs_25 cl10 flX10_54 o_84 ff10_29 (fr10_29 _) a_95.1 ?_
      refine R_iload_n dX10_findsPairs_28 rfl rfl ?_
      refine R_zaload dX10_findsPairs_29 a_95 hg4.1 hg4.2 rfl ?_
      refine R_if_eq dX10_findsPairs_30 rfl (fun h30 => ?_) (fun h30 => ?_)
      · replace hf := iposE hf h30
        refine R_iload_n dX10_findsPairs_46 rfl rfl ?_
        refine R_iconst dX10_findsPairs_47 (v := 1) rfl ?_
        refine R_isub dX10_findsPairs_48 rfl ?_
        obtain ⟨v3_49, hv3_49, hf⟩ := ltE hf
        refine R_istore_n dX10_findsPairs_49 rfl (by decide) hv3_49 rfl ?_
        refine R_subk (rn_X10_findsPairs_L50 _ (fun v1 v2 v3 M res  hf => ?_) 4096 _ _ _ _ _  hf) ⟨rfl, rfl, rfl, rfl, trivial⟩
        refine R_iload_n dX10_findsPairs_80 rfl rfl ?_
        refine R_if_lt dX10_findsPairs_81 rfl (fun h81 => ?_) (fun h81 => ?_)
        · replace hf := iposE hf h81
          obtain ⟨v2_110, hv2_110, hf⟩ := ltE hf
          refine R_iinc dX10_findsPairs_110 rfl rfl hv2_110 (by decide) rfl ?_
          refine R_goto dX10_findsPairs_113 rfl ?_
          exact R_subk (ih _ _ _ _  hf) ⟨rfl, rfl, rfl, trivial⟩
        · replace hf := inegE hf h81
          refine R_aload_n dX10_findsPairs_84 rfl rfl ?_
          refine R_getR dX10_findsPairs_85 cl10 flX10_58 o_84 ff10_30 (fr10_30 _) a_96.1 ?_
          refine R_iload_n dX10_findsPairs_88 rfl rfl ?_
          refine R_aload_n dX10_findsPairs_89 rfl rfl ?_
          refine R_getR dX10_findsPairs_90 cl10 flX10_61 o_84 ff10_31 (fr10_31 _) a_97.1 ?_
          refine R_iload_n dX10_findsPairs_93 rfl rfl ?_
          obtain ⟨hg5, hf⟩ := gdE hf
          refine R_iaload dX10_findsPairs_94 a_97 hg5.1 hg5.2 rfl ?_
          obtain ⟨hg6, hf⟩ := gdE hf
          obtain ⟨M95, hM95, hf⟩ := ltE hf
          refine R_iastore dX10_findsPairs_95 a_96 hg6.1 hg6.2 hM95 ?_
          refine R_aload_n dX10_findsPairs_96 rfl rfl ?_
          refine R_getR dX10_findsPairs_97 cl10 flX10_58 o_84 ff10_30 (fr10_30 _) a_96.1 ?_
          refine R_aload_n dX10_findsPairs_100 rfl rfl ?_
          refine R_getR dX10_findsPairs_101 cl10 flX10_61 o_84 ff10_31 (fr10_31 _) a_97.1 ?_
          refine R_iload_n dX10_findsPairs_104 rfl rfl ?_
          refine R_iaload dX10_findsPairs_105 a_97 hg5.1 hg5.2 rfl ?_
          refine R_iload_n dX10_findsPairs_106 rfl rfl ?_
          obtain ⟨hg7, hf⟩ := gdE hf
          obtain ⟨M107, hM107, hf⟩ := ltE hf
          refine R_iastore dX10_findsPairs_107 a_96 hg7.1 hg7.2 hM107 ?_
          refine R_iload_n dX10_findsPairs_108 rfl rfl ?_
          refine R_istore_n dX10_findsPairs_109 rfl (by decide) rfl rfl ?_
          obtain ⟨v2_110, hv2_110, hf⟩ := ltE hf
          refine R_iinc dX10_findsPairs_110 rfl rfl hv2_110 (by decide) rfl ?_
          refine R_goto dX10_findsPairs_113 rfl ?_
          exact R_subk (ih _ _ _ _  hf) ⟨rfl, rfl, rfl, trivial⟩
      · replace hf := inegE hf h30
        refine R_aload_n dX10_findsPairs_33 rfl rfl ?_
        refine R_getR dX10_findsPairs_34 cl10 flX10_61 o_84 ff10_31 (fr10_31 _) a_97.1 ?_
        refine R_iload_n dX10_findsPairs_37 rfl rfl ?_
        refine R_iload_n dX10_findsPairs_38 rfl rfl ?_
        obtain ⟨hg8, hf⟩ := gdE hf
        obtain ⟨M39, hM39, hf⟩ := ltE hf
        refine R_iastore dX10_findsPairs_39 a_97 hg8.1 hg8.2 hM39 ?_
        obtain ⟨v1_40, hv1_40, hf⟩ := ltE hf
        refine R_iinc dX10_findsPairs_40 rfl rfl hv1_40 (by decide) rfl ?_
        refine R_goto dX10_findsPairs_43 rfl ?_
        obtain ⟨v2_110, hv2_110, hf⟩ := ltE hf
        refine R_iinc dX10_findsPairs_110 rfl rfl hv2_110 (by decide) rfl ?_
        refine R_goto dX10_findsPairs_113 rfl ?_
        exact R_subk (ih _ _ _ _  hf) ⟨rfl, rfl, rfl, trivial⟩
set_option maxRecDepth 20000 in
theorem ct_X10_findsPairs {G : Gl}  (M : Mem) {res : Mem}  (hf : f_X10_findsPairs  M = some res) : Ct G miX10_findsPairs yX10_findsPairs 3 [aR 84] M none res := by
  refine Ct.of (L := [some (aR 84), none, none, none]) mwX10_findsPairs rfl trivial nle ⟨rfl, trivial⟩ ?_
  unfold f_X10_findsPairs at hf
  refine R_aload_n dX10_findsPairs_0 rfl rfl ?_
  refine R_iconst dX10_findsPairs_1 (v := (-1)) rfl ?_
  obtain ⟨p2, hp2, hf⟩ := bdE hf
  refine R_callV (As := [aI (-1)]) (st := []) dX10_findsPairs_2 (ct_X10_finds _ _  hp2) mwX10_finds mvX10_finds mlX10_261 cl10 o_84 rfl rfl ⟨nle, nle, nle, nle⟩ nle rfl ?_
  refine R_iconst dX10_findsPairs_5 (v := 0) rfl ?_
  refine R_istore_n dX10_findsPairs_6 rfl (by decide) rfl rfl ?_
  refine R_iconst dX10_findsPairs_7 (v := 0) rfl ?_
  refine R_istore_n dX10_findsPairs_8 rfl (by decide) rfl rfl ?_
  exact R_subk (rn_X10_findsPairs_L9 4096 _ _ _ _  hf) ⟨rfl, rfl, rfl, trivial⟩
