/-! BracketHallModel.bracketAt(I)I -/
def f_X10_bracketAt_L2 : Nat → Int → Int → Mem → Option (Int)
  | 0, _, _, _ => none
  | n + 1, v1, v2, M =>
    if (M 84 26) ≤ v2 then
      some (-1)
    else
      if (0 : Int) ≤ v2 ∧ v2 < 240 then
      if (M 93 v2) = v1 then
        some v2
      else
        lt1 (w32 (v2 + 1)) fun v2_22 =>
        f_X10_bracketAt_L2 n v1 v2_22 M
      else none
def f_X10_bracketAt (v1 : Int) (M : Mem) : Option (Int) :=
  f_X10_bracketAt_L2 4096 v1 0 M
set_option maxRecDepth 20000 in
theorem rn_X10_bracketAt_L2 {G : Gl} : ∀ (n : Nat) (v1 : Int) (v2 : Int) (M : Mem) (res : Int),  f_X10_bracketAt_L2 n v1 v2 M = some res → Run G false (rmD 0 0 0) miX10_bracketAt (ZP G (some (aI res)) M) 0 0 2 [some (aR 84), some (aI v1), some (aI v2)] [] M := by
  intro n
  induction n with
  | zero => intro v1 v2 M res  hf; cases hf
  | succ n ih =>
    intro v1 v2 M res  hf
    rw [f_X10_bracketAt_L2] at hf
    refine R_iload_n dX10_bracketAt_2 rfl rfl ?_
    refine R_aload_n dX10_bracketAt_3 rfl rfl ?_
    refine R_getI (ki := 26) dX10_bracketAt_4 cl10 flX10_264 o_84 ff10_26 rfl rfl ?_
    refine R_icmp_ge dX10_bracketAt_7 rfl (fun h7 => ?_) (fun h7 => ?_)
    · replace hf := iposE hf h7
      refine R_iconst dX10_bracketAt_28 (v := (-1)) rfl ?_
      cases hf; exact E_iret dX10_bracketAt_29 rfl rfl rfl
    · replace hf := inegE hf h7
      refine R_aload_n dX10_bracketAt_10 rfl rfl ?_
      refine R_getR dX10_bracketAt_11 cl10 flX10_48 o_84 ff10_27 (fr10_27 _) a_93.1 ?_
      refine R_iload_n dX10_bracketAt_14 rfl rfl ?_
      obtain ⟨hg1, hf⟩ := gdE hf
      refine R_iaload dX10_bracketAt_15 a_93 hg1.1 hg1.2 rfl ?_
      refine R_iload_n dX10_bracketAt_16 rfl rfl ?_
      refine R_icmp_ne dX10_bracketAt_17 rfl (fun h17 => ?_) (fun h17 => ?_)
      · replace hf := inegE hf h17
        obtain ⟨v2_22, hv2_22, hf⟩ := ltE hf
        refine R_iinc dX10_bracketAt_22 rfl rfl hv2_22 (by decide) rfl ?_
        refine R_goto dX10_bracketAt_25 rfl ?_
        exact R_subk (ih _ _ _ _  hf) ⟨rfl, rfl, rfl, trivial⟩
      · replace hf := iposE hf h17
        refine R_iload_n dX10_bracketAt_20 rfl rfl ?_
        cases hf; exact E_iret dX10_bracketAt_21 rfl rfl rfl
set_option maxRecDepth 20000 in
theorem ct_X10_bracketAt {G : Gl} (v1 : Int) (M : Mem) {res : Int}  (hf : f_X10_bracketAt v1 M = some res) : Ct G miX10_bracketAt yX10_bracketAt 0 [aR 84, aI v1] M (some (aI res)) M := by
  refine Ct.of (L := [some (aR 84), some (aI v1), none]) mwX10_bracketAt rfl trivial nle ⟨rfl, rfl, trivial⟩ ?_
  unfold f_X10_bracketAt at hf
  refine R_iconst dX10_bracketAt_0 (v := 0) rfl ?_
  refine R_istore_n dX10_bracketAt_1 rfl (by decide) rfl rfl ?_
  exact R_subk (rn_X10_bracketAt_L2 4096 _ _ _ _  hf) ⟨rfl, rfl, rfl, trivial⟩
/-! BracketHallModel.isPair(I)Z -/
def f_X10_isPair (v1 : Int) (M : Mem) : Option (Int) :=
  if (0 : Int) ≤ v1 ∧ v1 < 240 then
  if (M 95 v1) = 0 then
    some 0
  else
    if (M 96 v1) = (-1) then
      some 0
    else
      some 1
  else none
set_option maxRecDepth 20000 in
theorem ct_X10_isPair {G : Gl} (v1 : Int) (M : Mem) {res : Int}  (hf : f_X10_isPair v1 M = some res) : Ct G miX10_isPair yX10_isPair 0 [aR 84, aI v1] M (some (aI res)) M := by
  refine Ct.of (L := [some (aR 84), some (aI v1)]) mwX10_isPair rfl trivial nle ⟨rfl, rfl, trivial⟩ ?_
  unfold f_X10_isPair at hf
  refine R_aload_n dX10_isPair_0 rfl rfl ?_
  refine R_getR dX10_isPair_1 cl10 flX10_54 o_84 ff10_29 (fr10_29 _) a_95.1 ?_
  refine R_iload_n dX10_isPair_4 rfl rfl ?_
  obtain ⟨hg1, hf⟩ := gdE hf
  refine R_zaload dX10_isPair_5 a_95 hg1.1 hg1.2 rfl ?_
  refine R_if_eq dX10_isPair_6 rfl (fun h6 => ?_) (fun h6 => ?_)
  · replace hf := iposE hf h6
    refine R_iconst dX10_isPair_23 (v := 0) rfl ?_
    cases hf; exact E_zret dX10_isPair_24 rfl (by decide) rfl rfl
  · replace hf := inegE hf h6
    refine R_aload_n dX10_isPair_9 rfl rfl ?_
    refine R_getR dX10_isPair_10 cl10 flX10_58 o_84 ff10_30 (fr10_30 _) a_96.1 ?_
    refine R_iload_n dX10_isPair_13 rfl rfl ?_
    refine R_iaload dX10_isPair_14 a_96 hg1.1 hg1.2 rfl ?_
    refine R_iconst dX10_isPair_15 (v := (-1)) rfl ?_
    refine R_icmp_eq dX10_isPair_16 rfl (fun h16 => ?_) (fun h16 => ?_)
    · replace hf := iposE hf h16
      refine R_iconst dX10_isPair_23 (v := 0) rfl ?_
      cases hf; exact E_zret dX10_isPair_24 rfl (by decide) rfl rfl
    · replace hf := inegE hf h16
      refine R_iconst dX10_isPair_19 (v := 1) rfl ?_
      refine R_goto dX10_isPair_20 rfl ?_
      cases hf; exact E_zret dX10_isPair_24 rfl (by decide) rfl rfl
/-! BracketHallModel.end(I)I -/
def f_X10_end (v1 : Int) (M : Mem) : Option (Int) :=
  if (0 : Int) ≤ v1 ∧ v1 < 240 then
  if (0 : Int) ≤ M 96 v1 ∧ M 96 v1 < 240 then
  some (M 93 (M 96 v1))
  else none
  else none
set_option maxRecDepth 20000 in
theorem ct_X10_end {G : Gl} (v1 : Int) (M : Mem) {res : Int}  (hf : f_X10_end v1 M = some res) : Ct G miX10_end yX10_end 0 [aR 84, aI v1] M (some (aI res)) M := by
  refine Ct.of (L := [some (aR 84), some (aI v1)]) mwX10_end rfl trivial nle ⟨rfl, rfl, trivial⟩ ?_
  unfold f_X10_end at hf
  refine R_aload_n dX10_end_0 rfl rfl ?_
  refine R_getR dX10_end_1 cl10 flX10_48 o_84 ff10_27 (fr10_27 _) a_93.1 ?_
  refine R_aload_n dX10_end_4 rfl rfl ?_
  refine R_getR dX10_end_5 cl10 flX10_58 o_84 ff10_30 (fr10_30 _) a_96.1 ?_
  refine R_iload_n dX10_end_8 rfl rfl ?_
  obtain ⟨hg1, hf⟩ := gdE hf
  refine R_iaload dX10_end_9 a_96 hg1.1 hg1.2 rfl ?_
  obtain ⟨hg2, hf⟩ := gdE hf
  refine R_iaload dX10_end_10 a_93 hg2.1 hg2.2 rfl ?_
  cases hf; exact E_iret dX10_end_11 rfl rfl rfl
/-! BracketHallModel.isAround(II)Z -/
def f_X10_isAround (v1 : Int) (v2 : Int) (M : Mem) : Option (Int) :=
  (f_X10_isPair v1 M).bind fun p2 =>
  if p2 = 0 then
    some 0
  else
    if (0 : Int) ≤ v1 ∧ v1 < 240 then
    if v2 ≤ (M 93 v1) then
      some 0
    else
      (f_X10_end v1 M).bind fun p20 =>
      if p20 ≤ v2 then
        some 0
      else
        some 1
    else none
set_option maxRecDepth 20000 in
theorem ct_X10_isAround {G : Gl} (v1 : Int) (v2 : Int) (M : Mem) {res : Int}  (hf : f_X10_isAround v1 v2 M = some res) : Ct G miX10_isAround yX10_isAround 1 [aR 84, aI v1, aI v2] M (some (aI res)) M := by
  refine Ct.of (L := [some (aR 84), some (aI v1), some (aI v2)]) mwX10_isAround rfl trivial nle ⟨rfl, rfl, rfl, trivial⟩ ?_
  unfold f_X10_isAround at hf
  refine R_aload_n dX10_isAround_0 rfl rfl ?_
  refine R_iload_n dX10_isAround_1 rfl rfl ?_
  obtain ⟨p2, hp2, hf⟩ := bdE hf
  refine R_callV (As := [aI v1]) (st := []) dX10_isAround_2 (ct_X10_isPair _ _  hp2) mwX10_isPair mvX10_isPair mlX10_275 cl10 o_84 rfl rfl ⟨nle, nle, nle, nle⟩ nle rfl ?_
  refine R_if_eq dX10_isAround_5 rfl (fun h5 => ?_) (fun h5 => ?_)
  · replace hf := iposE hf h5
    refine R_iconst dX10_isAround_31 (v := 0) rfl ?_
    cases hf; exact E_zret dX10_isAround_32 rfl (by decide) rfl rfl
  · replace hf := inegE hf h5
    refine R_aload_n dX10_isAround_8 rfl rfl ?_
    refine R_getR dX10_isAround_9 cl10 flX10_48 o_84 ff10_27 (fr10_27 _) a_93.1 ?_
    refine R_iload_n dX10_isAround_12 rfl rfl ?_
    obtain ⟨hg1, hf⟩ := gdE hf
    refine R_iaload dX10_isAround_13 a_93 hg1.1 hg1.2 rfl ?_
    refine R_iload_n dX10_isAround_14 rfl rfl ?_
    refine R_icmp_ge dX10_isAround_15 rfl (fun h15 => ?_) (fun h15 => ?_)
    · replace hf := iposE hf h15
      refine R_iconst dX10_isAround_31 (v := 0) rfl ?_
      cases hf; exact E_zret dX10_isAround_32 rfl (by decide) rfl rfl
    · replace hf := inegE hf h15
      refine R_aload_n dX10_isAround_18 rfl rfl ?_
      refine R_iload_n dX10_isAround_19 rfl rfl ?_
      obtain ⟨p20, hp20, hf⟩ := bdE hf
      refine R_callV (As := [aI v1]) (st := []) dX10_isAround_20 (ct_X10_end _ _  hp20) mwX10_end mvX10_end mlX10_278 cl10 o_84 rfl rfl ⟨nle, nle, nle, nle⟩ nle rfl ?_
      refine R_iload_n dX10_isAround_23 rfl rfl ?_
      refine R_icmp_le dX10_isAround_24 rfl (fun h24 => ?_) (fun h24 => ?_)
      · replace hf := iposE hf h24
        refine R_iconst dX10_isAround_31 (v := 0) rfl ?_
        cases hf; exact E_zret dX10_isAround_32 rfl (by decide) rfl rfl
      · replace hf := inegE hf h24
        refine R_iconst dX10_isAround_27 (v := 1) rfl ?_
        refine R_goto dX10_isAround_28 rfl ?_
        cases hf; exact E_zret dX10_isAround_32 rfl (by decide) rfl rfl
/-! BracketHallModel.depthAt(I)I -/
def f_X10_depthAt_L4 : Nat → Int → Int → Int → Mem → Option (Int)
  | 0, _, _, _, _ => none
  | n + 1, v1, v2, v3, M =>
    if (M 84 26) ≤ v3 then
      some v2
    else
      (f_X10_isAround v3 v1 M).bind fun p16 =>
      if p16 = 0 then
        lt1 (w32 (v2 + 0)) fun v2_28 =>
        lt1 (w32 (v3 + 1)) fun v3_29 =>
        f_X10_depthAt_L4 n v1 v2_28 v3_29 M
      else
        lt1 (w32 (v2 + 1)) fun v2_28 =>
        lt1 (w32 (v3 + 1)) fun v3_29 =>
        f_X10_depthAt_L4 n v1 v2_28 v3_29 M
def f_X10_depthAt (v1 : Int) (M : Mem) : Option (Int) :=
  f_X10_depthAt_L4 4096 v1 0 0 M
set_option maxRecDepth 20000 in
theorem rn_X10_depthAt_L4 {G : Gl} : ∀ (n : Nat) (v1 : Int) (v2 : Int) (v3 : Int) (M : Mem) (res : Int),  f_X10_depthAt_L4 n v1 v2 v3 M = some res → Run G false (rmD 2 0 0) miX10_depthAt (ZP G (some (aI res)) M) 0 0 4 [some (aR 84), some (aI v1), some (aI v2), some (aI v3)] [] M := by
  intro n
  induction n with
  | zero => intro v1 v2 v3 M res  hf; cases hf
  | succ n ih =>
    intro v1 v2 v3 M res  hf
    rw [f_X10_depthAt_L4] at hf
    refine R_iload_n dX10_depthAt_4 rfl rfl ?_
    refine R_aload_n dX10_depthAt_5 rfl rfl ?_
    refine R_getI (ki := 26) dX10_depthAt_6 cl10 flX10_264 o_84 ff10_26 rfl rfl ?_
    refine R_icmp_ge dX10_depthAt_9 rfl (fun h9 => ?_) (fun h9 => ?_)
    · replace hf := iposE hf h9
      refine R_iload_n dX10_depthAt_35 rfl rfl ?_
      cases hf; exact E_iret dX10_depthAt_36 rfl rfl rfl
    · replace hf := inegE hf h9
      refine R_iload_n dX10_depthAt_12 rfl rfl ?_
      refine R_aload_n dX10_depthAt_13 rfl rfl ?_
      refine R_iload_n dX10_depthAt_14 rfl rfl ?_
      refine R_iload_n dX10_depthAt_15 rfl rfl ?_
      obtain ⟨p16, hp16, hf⟩ := bdE hf
      refine R_callV (As := [aI v3, aI v1]) (st := [aI v2]) dX10_depthAt_16 (ct_X10_isAround _ _ _  hp16) mwX10_isAround mvX10_isAround mlX10_281 cl10 o_84 rfl rfl ⟨nle, nle, nle, nle⟩ nle rfl ?_
      refine R_if_eq dX10_depthAt_19 rfl (fun h19 => ?_) (fun h19 => ?_)
      · replace hf := iposE hf h19
        refine R_iconst dX10_depthAt_26 (v := 0) rfl ?_
        refine R_iadd dX10_depthAt_27 rfl ?_
        obtain ⟨v2_28, hv2_28, hf⟩ := ltE hf
        refine R_istore_n dX10_depthAt_28 rfl (by decide) hv2_28 rfl ?_
        obtain ⟨v3_29, hv3_29, hf⟩ := ltE hf
        refine R_iinc dX10_depthAt_29 rfl rfl hv3_29 (by decide) rfl ?_
        refine R_goto dX10_depthAt_32 rfl ?_
        exact R_subk (ih _ _ _ _ _  hf) ⟨rfl, rfl, rfl, rfl, trivial⟩
      · replace hf := inegE hf h19
        refine R_iconst dX10_depthAt_22 (v := 1) rfl ?_
        refine R_goto dX10_depthAt_23 rfl ?_
        refine R_iadd dX10_depthAt_27 rfl ?_
        obtain ⟨v2_28, hv2_28, hf⟩ := ltE hf
        refine R_istore_n dX10_depthAt_28 rfl (by decide) hv2_28 rfl ?_
        obtain ⟨v3_29, hv3_29, hf⟩ := ltE hf
        refine R_iinc dX10_depthAt_29 rfl rfl hv3_29 (by decide) rfl ?_
        refine R_goto dX10_depthAt_32 rfl ?_
        exact R_subk (ih _ _ _ _ _  hf) ⟨rfl, rfl, rfl, rfl, trivial⟩
set_option maxRecDepth 20000 in
theorem ct_X10_depthAt {G : Gl} (v1 : Int) (M : Mem) {res : Int}  (hf : f_X10_depthAt v1 M = some res) : Ct G miX10_depthAt yX10_depthAt 2 [aR 84, aI v1] M (some (aI res)) M := by
  refine Ct.of (L := [some (aR 84), some (aI v1), none, none]) mwX10_depthAt rfl trivial nle ⟨rfl, rfl, trivial⟩ ?_
  unfold f_X10_depthAt at hf
  refine R_iconst dX10_depthAt_0 (v := 0) rfl ?_
  refine R_istore_n dX10_depthAt_1 rfl (by decide) rfl rfl ?_
  refine R_iconst dX10_depthAt_2 (v := 0) rfl ?_
  refine R_istore_n dX10_depthAt_3 rfl (by decide) rfl rfl ?_
  exact R_subk (rn_X10_depthAt_L4 4096 _ _ _ _ _  hf) ⟨rfl, rfl, rfl, rfl, trivial⟩
/-! BracketHallModel.outer(I)I -/
def f_X10_outer_L4 : Nat → Int → Int → Int → Mem → Option (Int)
  | 0, _, _, _, _ => none
  | n + 1, v1, v2, v3, M =>
    if (M 84 26) ≤ v3 then
      some v2
    else
      (f_X10_isAround v3 v1 M).bind fun p15 =>
      if p15 = 0 then
        lt1 (w32 (v3 + 1)) fun v3_27 =>
        f_X10_outer_L4 n v1 v2 v3_27 M
      else
        lt1 (w32 (v3 + 1)) fun v3_27 =>
        f_X10_outer_L4 n v1 v3 v3_27 M
def f_X10_outer (v1 : Int) (M : Mem) : Option (Int) :=
  f_X10_outer_L4 4096 v1 (-1) 0 M
set_option maxRecDepth 20000 in
theorem rn_X10_outer_L4 {G : Gl} : ∀ (n : Nat) (v1 : Int) (v2 : Int) (v3 : Int) (M : Mem) (res : Int),  f_X10_outer_L4 n v1 v2 v3 M = some res → Run G false (rmD 2 0 0) miX10_outer (ZP G (some (aI res)) M) 0 0 4 [some (aR 84), some (aI v1), some (aI v2), some (aI v3)] [] M := by
  intro n
  induction n with
  | zero => intro v1 v2 v3 M res  hf; cases hf
  | succ n ih =>
    intro v1 v2 v3 M res  hf
    rw [f_X10_outer_L4] at hf
    refine R_iload_n dX10_outer_4 rfl rfl ?_
    refine R_aload_n dX10_outer_5 rfl rfl ?_
    refine R_getI (ki := 26) dX10_outer_6 cl10 flX10_264 o_84 ff10_26 rfl rfl ?_
    refine R_icmp_ge dX10_outer_9 rfl (fun h9 => ?_) (fun h9 => ?_)
    · replace hf := iposE hf h9
      refine R_iload_n dX10_outer_33 rfl rfl ?_
      cases hf; exact E_iret dX10_outer_34 rfl rfl rfl
    · replace hf := inegE hf h9
      refine R_aload_n dX10_outer_12 rfl rfl ?_
      refine R_iload_n dX10_outer_13 rfl rfl ?_
      refine R_iload_n dX10_outer_14 rfl rfl ?_
      obtain ⟨p15, hp15, hf⟩ := bdE hf
      refine R_callV (As := [aI v3, aI v1]) (st := []) dX10_outer_15 (ct_X10_isAround _ _ _  hp15) mwX10_isAround mvX10_isAround mlX10_281 cl10 o_84 rfl rfl ⟨nle, nle, nle, nle⟩ nle rfl ?_
      refine R_if_eq dX10_outer_18 rfl (fun h18 => ?_) (fun h18 => ?_)
      · replace hf := iposE hf h18
        refine R_iload_n dX10_outer_25 rfl rfl ?_
        refine R_istore_n dX10_outer_26 rfl (by decide) rfl rfl ?_
        obtain ⟨v3_27, hv3_27, hf⟩ := ltE hf
        refine R_iinc dX10_outer_27 rfl rfl hv3_27 (by decide) rfl ?_
        refine R_goto dX10_outer_30 rfl ?_
        exact R_subk (ih _ _ _ _ _  hf) ⟨rfl, rfl, rfl, rfl, trivial⟩
      · replace hf := inegE hf h18
        refine R_iload_n dX10_outer_21 rfl rfl ?_
        refine R_goto dX10_outer_22 rfl ?_
        refine R_istore_n dX10_outer_26 rfl (by decide) rfl rfl ?_
        obtain ⟨v3_27, hv3_27, hf⟩ := ltE hf
        refine R_iinc dX10_outer_27 rfl rfl hv3_27 (by decide) rfl ?_
        refine R_goto dX10_outer_30 rfl ?_
        exact R_subk (ih _ _ _ _ _  hf) ⟨rfl, rfl, rfl, rfl, trivial⟩
set_option maxRecDepth 20000 in
theorem ct_X10_outer {G : Gl} (v1 : Int) (M : Mem) {res : Int}  (hf : f_X10_outer v1 M = some res) : Ct G miX10_outer yX10_outer 2 [aR 84, aI v1] M (some (aI res)) M := by
  refine Ct.of (L := [some (aR 84), some (aI v1), none, none]) mwX10_outer rfl trivial nle ⟨rfl, rfl, trivial⟩ ?_
  unfold f_X10_outer at hf
  refine R_iconst dX10_outer_0 (v := (-1)) rfl ?_
  refine R_istore_n dX10_outer_1 rfl (by decide) rfl rfl ?_
  refine R_iconst dX10_outer_2 (v := 0) rfl ?_
  refine R_istore_n dX10_outer_3 rfl (by decide) rfl rfl ?_
  exact R_subk (rn_X10_outer_L4 4096 _ _ _ _ _  hf) ⟨rfl, rfl, rfl, rfl, trivial⟩
/-! BracketHallModel.pairs()I -/
def f_X10_pairs_L4 : Nat → Int → Int → Mem → Option (Int)
  | 0, _, _, _ => none
  | n + 1, v1, v2, M =>
    if (M 84 26) ≤ v2 then
      some v1
    else
      (f_X10_isPair v2 M).bind fun p15 =>
      if p15 = 0 then
        lt1 (w32 (v1 + 0)) fun v1_27 =>
        lt1 (w32 (v2 + 1)) fun v2_28 =>
        f_X10_pairs_L4 n v1_27 v2_28 M
      else
        lt1 (w32 (v1 + 1)) fun v1_27 =>
        lt1 (w32 (v2 + 1)) fun v2_28 =>
        f_X10_pairs_L4 n v1_27 v2_28 M
def f_X10_pairs  (M : Mem) : Option (Int) :=
  f_X10_pairs_L4 4096 0 0 M
set_option maxRecDepth 20000 in
theorem rn_X10_pairs_L4 {G : Gl} : ∀ (n : Nat) (v1 : Int) (v2 : Int) (M : Mem) (res : Int),  f_X10_pairs_L4 n v1 v2 M = some res → Run G false (rmD 1 0 0) miX10_pairs (ZP G (some (aI res)) M) 0 0 4 [some (aR 84), some (aI v1), some (aI v2)] [] M := by
  intro n
  induction n with
  | zero => intro v1 v2 M res  hf; cases hf
  | succ n ih =>
    intro v1 v2 M res  hf
    rw [f_X10_pairs_L4] at hf
    refine R_iload_n dX10_pairs_4 rfl rfl ?_
    refine R_aload_n dX10_pairs_5 rfl rfl ?_
    refine R_getI (ki := 26) dX10_pairs_6 cl10 flX10_264 o_84 ff10_26 rfl rfl ?_
    refine R_icmp_ge dX10_pairs_9 rfl (fun h9 => ?_) (fun h9 => ?_)
    · replace hf := iposE hf h9
      refine R_iload_n dX10_pairs_34 rfl rfl ?_
      cases hf; exact E_iret dX10_pairs_35 rfl rfl rfl
    · replace hf := inegE hf h9
      refine R_iload_n dX10_pairs_12 rfl rfl ?_
      refine R_aload_n dX10_pairs_13 rfl rfl ?_
      refine R_iload_n dX10_pairs_14 rfl rfl ?_
      obtain ⟨p15, hp15, hf⟩ := bdE hf
      refine R_callV (As := [aI v2]) (st := [aI v1]) dX10_pairs_15 (ct_X10_isPair _ _  hp15) mwX10_isPair mvX10_isPair mlX10_275 cl10 o_84 rfl rfl ⟨nle, nle, nle, nle⟩ nle rfl ?_
      refine R_if_eq dX10_pairs_18 rfl (fun h18 => ?_) (fun h18 => ?_)
      · replace hf := iposE hf h18
        refine R_iconst dX10_pairs_25 (v := 0) rfl ?_
        refine R_iadd dX10_pairs_26 rfl ?_
        obtain ⟨v1_27, hv1_27, hf⟩ := ltE hf
        refine R_istore_n dX10_pairs_27 rfl (by decide) hv1_27 rfl ?_
        obtain ⟨v2_28, hv2_28, hf⟩ := ltE hf
        refine R_iinc dX10_pairs_28 rfl rfl hv2_28 (by decide) rfl ?_
        refine R_goto dX10_pairs_31 rfl ?_
        exact R_subk (ih _ _ _ _  hf) ⟨rfl, rfl, rfl, trivial⟩
      · replace hf := inegE hf h18
        refine R_iconst dX10_pairs_21 (v := 1) rfl ?_
        refine R_goto dX10_pairs_22 rfl ?_
        refine R_iadd dX10_pairs_26 rfl ?_
        obtain ⟨v1_27, hv1_27, hf⟩ := ltE hf
        refine R_istore_n dX10_pairs_27 rfl (by decide) hv1_27 rfl ?_
        obtain ⟨v2_28, hv2_28, hf⟩ := ltE hf
        refine R_iinc dX10_pairs_28 rfl rfl hv2_28 (by decide) rfl ?_
        refine R_goto dX10_pairs_31 rfl ?_
        exact R_subk (ih _ _ _ _  hf) ⟨rfl, rfl, rfl, trivial⟩
set_option maxRecDepth 20000 in
theorem ct_X10_pairs {G : Gl}  (M : Mem) {res : Int}  (hf : f_X10_pairs  M = some res) : Ct G miX10_pairs yX10_pairs 1 [aR 84] M (some (aI res)) M := by
  refine Ct.of (L := [some (aR 84), none, none]) mwX10_pairs rfl trivial nle ⟨rfl, trivial⟩ ?_
  unfold f_X10_pairs at hf
  refine R_iconst dX10_pairs_0 (v := 0) rfl ?_
  refine R_istore_n dX10_pairs_1 rfl (by decide) rfl rfl ?_
  refine R_iconst dX10_pairs_2 (v := 0) rfl ?_
  refine R_istore_n dX10_pairs_3 rfl (by decide) rfl rfl ?_
  exact R_subk (rn_X10_pairs_L4 4096 _ _ _ _  hf) ⟨rfl, rfl, rfl, trivial⟩
/-! BracketHallModel.lones()I -/
def f_X10_lones_L4 : Nat → Int → Int → Mem → Option (Int)
  | 0, _, _, _ => none
  | n + 1, v1, v2, M =>
    if (M 84 26) ≤ v2 then
      some v1
    else
      if (0 : Int) ≤ v2 ∧ v2 < 240 then
      if (M 96 v2) = (-1) then
        lt1 (w32 (v1 + 1)) fun v1_29 =>
        lt1 (w32 (v2 + 1)) fun v2_30 =>
        f_X10_lones_L4 n v1_29 v2_30 M
      else
        lt1 (w32 (v1 + 0)) fun v1_29 =>
        lt1 (w32 (v2 + 1)) fun v2_30 =>
        f_X10_lones_L4 n v1_29 v2_30 M
      else none
def f_X10_lones  (M : Mem) : Option (Int) :=
  f_X10_lones_L4 4096 0 0 M
set_option maxRecDepth 20000 in
theorem rn_X10_lones_L4 {G : Gl} : ∀ (n : Nat) (v1 : Int) (v2 : Int) (M : Mem) (res : Int),  f_X10_lones_L4 n v1 v2 M = some res → Run G false (rmD 0 0 0) miX10_lones (ZP G (some (aI res)) M) 0 0 4 [some (aR 84), some (aI v1), some (aI v2)] [] M := by
  intro n
  induction n with
  | zero => intro v1 v2 M res  hf; cases hf
  | succ n ih =>
    intro v1 v2 M res  hf
    rw [f_X10_lones_L4] at hf
    refine R_iload_n dX10_lones_4 rfl rfl ?_
    refine R_aload_n dX10_lones_5 rfl rfl ?_
    refine R_getI (ki := 26) dX10_lones_6 cl10 flX10_264 o_84 ff10_26 rfl rfl ?_
    refine R_icmp_ge dX10_lones_9 rfl (fun h9 => ?_) (fun h9 => ?_)
    · replace hf := iposE hf h9
      refine R_iload_n dX10_lones_36 rfl rfl ?_
      cases hf; exact E_iret dX10_lones_37 rfl rfl rfl
    · replace hf := inegE hf h9
      refine R_iload_n dX10_lones_12 rfl rfl ?_
      refine R_aload_n dX10_lones_13 rfl rfl ?_
      refine R_getR dX10_lones_14 cl10 flX10_58 o_84 ff10_30 (fr10_30 _) a_96.1 ?_
      refine R_iload_n dX10_lones_17 rfl rfl ?_
      obtain ⟨hg1, hf⟩ := gdE hf
      refine R_iaload dX10_lones_18 a_96 hg1.1 hg1.2 rfl ?_
      refine R_iconst dX10_lones_19 (v := (-1)) rfl ?_
      refine R_icmp_ne dX10_lones_20 rfl (fun h20 => ?_) (fun h20 => ?_)
      · replace hf := inegE hf h20
        refine R_iconst dX10_lones_27 (v := 0) rfl ?_
        refine R_iadd dX10_lones_28 rfl ?_
        obtain ⟨v1_29, hv1_29, hf⟩ := ltE hf
        refine R_istore_n dX10_lones_29 rfl (by decide) hv1_29 rfl ?_
        obtain ⟨v2_30, hv2_30, hf⟩ := ltE hf
        refine R_iinc dX10_lones_30 rfl rfl hv2_30 (by decide) rfl ?_
        refine R_goto dX10_lones_33 rfl ?_
        exact R_subk (ih _ _ _ _  hf) ⟨rfl, rfl, rfl, trivial⟩
      · replace hf := iposE hf h20
        refine R_iconst dX10_lones_23 (v := 1) rfl ?_
        refine R_goto dX10_lones_24 rfl ?_
        refine R_iadd dX10_lones_28 rfl ?_
        obtain ⟨v1_29, hv1_29, hf⟩ := ltE hf
        refine R_istore_n dX10_lones_29 rfl (by decide) hv1_29 rfl ?_
        obtain ⟨v2_30, hv2_30, hf⟩ := ltE hf
        refine R_iinc dX10_lones_30 rfl rfl hv2_30 (by decide) rfl ?_
        refine R_goto dX10_lones_33 rfl ?_
        exact R_subk (ih _ _ _ _  hf) ⟨rfl, rfl, rfl, trivial⟩
set_option maxRecDepth 20000 in
theorem ct_X10_lones {G : Gl}  (M : Mem) {res : Int}  (hf : f_X10_lones  M = some res) : Ct G miX10_lones yX10_lones 0 [aR 84] M (some (aI res)) M := by
  refine Ct.of (L := [some (aR 84), none, none]) mwX10_lones rfl trivial nle ⟨rfl, trivial⟩ ?_
  unfold f_X10_lones at hf
  refine R_iconst dX10_lones_0 (v := 0) rfl ?_
  refine R_istore_n dX10_lones_1 rfl (by decide) rfl rfl ?_
  refine R_iconst dX10_lones_2 (v := 0) rfl ?_
  refine R_istore_n dX10_lones_3 rfl (by decide) rfl rfl ?_
  exact R_subk (rn_X10_lones_L4 4096 _ _ _ _  hf) ⟨rfl, rfl, rfl, trivial⟩
/-! BracketHallModel.deepest()I -/
def f_X10_deepest_L4 : Nat → Int → Int → Mem → Option (Int)
  | 0, _, _, _ => none
  | n + 1, v1, v2, M =>
    if (M 84 26) ≤ v2 then
      some v1
    else
      (f_X10_isPair v2 M).bind fun p14 =>
      if p14 = 0 then
        lt1 (w32 (v2 + 1)) fun v2_39 =>
        f_X10_deepest_L4 n v1 v2_39 M
      else
        if (0 : Int) ≤ v2 ∧ v2 < 240 then
        (f_X10_depthAt (M 93 v2) M).bind fun p28 =>
        lt1 (if v1 < p28 then p28 else v1) fun x31 =>
        lt1 (w32 (v2 + 1)) fun v2_39 =>
        f_X10_deepest_L4 n x31 v2_39 M
        else none
def f_X10_deepest  (M : Mem) : Option (Int) :=
  f_X10_deepest_L4 4096 (-1) 0 M
set_option maxRecDepth 20000 in
theorem rn_X10_deepest_L4 {G : Gl} : ∀ (n : Nat) (v1 : Int) (v2 : Int) (M : Mem) (res : Int),  f_X10_deepest_L4 n v1 v2 M = some res → Run G false (rmD 3 0 0) miX10_deepest (ZP G (some (aI res)) M) 0 0 4 [some (aR 84), some (aI v1), some (aI v2)] [] M := by
  intro n
  induction n with
  | zero => intro v1 v2 M res  hf; cases hf
  | succ n ih =>
    intro v1 v2 M res  hf
    rw [f_X10_deepest_L4] at hf
    refine R_iload_n dX10_deepest_4 rfl rfl ?_
    refine R_aload_n dX10_deepest_5 rfl rfl ?_
    refine R_getI (ki := 26) dX10_deepest_6 cl10 flX10_264 o_84 ff10_26 rfl rfl ?_
    refine R_icmp_ge dX10_deepest_9 rfl (fun h9 => ?_) (fun h9 => ?_)
    · replace hf := iposE hf h9
      refine R_iload_n dX10_deepest_45 rfl rfl ?_
      cases hf; exact E_iret dX10_deepest_46 rfl rfl rfl
    · replace hf := inegE hf h9
      refine R_aload_n dX10_deepest_12 rfl rfl ?_
      refine R_iload_n dX10_deepest_13 rfl rfl ?_
      obtain ⟨p14, hp14, hf⟩ := bdE hf
      refine R_callV (As := [aI v2]) (st := []) dX10_deepest_14 (ct_X10_isPair _ _  hp14) mwX10_isPair mvX10_isPair mlX10_275 cl10 o_84 rfl rfl ⟨nle, nle, nle, nle⟩ nle rfl ?_
      refine R_if_eq dX10_deepest_17 rfl (fun h17 => ?_) (fun h17 => ?_)
      · replace hf := iposE hf h17
        refine R_iload_n dX10_deepest_37 rfl rfl ?_
        refine R_istore_n dX10_deepest_38 rfl (by decide) rfl rfl ?_
        obtain ⟨v2_39, hv2_39, hf⟩ := ltE hf
        refine R_iinc dX10_deepest_39 rfl rfl hv2_39 (by decide) rfl ?_
        refine R_goto dX10_deepest_42 rfl ?_
        exact R_subk (ih _ _ _ _  hf) ⟨rfl, rfl, rfl, trivial⟩
      · replace hf := inegE hf h17
        refine R_iload_n dX10_deepest_20 rfl rfl ?_
        refine R_aload_n dX10_deepest_21 rfl rfl ?_
        refine R_aload_n dX10_deepest_22 rfl rfl ?_
        refine R_getR dX10_deepest_23 cl10 flX10_48 o_84 ff10_27 (fr10_27 _) a_93.1 ?_
        refine R_iload_n dX10_deepest_26 rfl rfl ?_
        obtain ⟨hg1, hf⟩ := gdE hf
        refine R_iaload dX10_deepest_27 a_93 hg1.1 hg1.2 rfl ?_
        obtain ⟨p28, hp28, hf⟩ := bdE hf
        refine R_callV (As := [aI (M 93 v2)]) (st := [aI v1]) dX10_deepest_28 (ct_X10_depthAt _ _  hp28) mwX10_depthAt mvX10_depthAt mlX10_284 cl10 o_84 rfl rfl ⟨nle, nle, nle, nle⟩ nle rfl ?_
        obtain ⟨x31, hx31, hf⟩ := ltE hf
        refine R_max dX10_deepest_31 jlX10_287 jw_max ⟨nle, nle, nle, nle⟩ nle hx31 ?_
        refine R_goto dX10_deepest_34 rfl ?_
        refine R_istore_n dX10_deepest_38 rfl (by decide) rfl rfl ?_
        obtain ⟨v2_39, hv2_39, hf⟩ := ltE hf
        refine R_iinc dX10_deepest_39 rfl rfl hv2_39 (by decide) rfl ?_
        refine R_goto dX10_deepest_42 rfl ?_
        exact R_subk (ih _ _ _ _  hf) ⟨rfl, rfl, rfl, trivial⟩
set_option maxRecDepth 20000 in
theorem ct_X10_deepest {G : Gl}  (M : Mem) {res : Int}  (hf : f_X10_deepest  M = some res) : Ct G miX10_deepest yX10_deepest 3 [aR 84] M (some (aI res)) M := by
  refine Ct.of (L := [some (aR 84), none, none]) mwX10_deepest rfl trivial nle ⟨rfl, trivial⟩ ?_
  unfold f_X10_deepest at hf
  refine R_iconst dX10_deepest_0 (v := (-1)) rfl ?_
  refine R_istore_n dX10_deepest_1 rfl (by decide) rfl rfl ?_
  refine R_iconst dX10_deepest_2 (v := 0) rfl ?_
  refine R_istore_n dX10_deepest_3 rfl (by decide) rfl rfl ?_
  exact R_subk (rn_X10_deepest_L4 4096 _ _ _ _  hf) ⟨rfl, rfl, rfl, trivial⟩
/-! BracketHallModel.lineOf(I)I -/
def f_X10_lineOf_L4 : Nat → Int → Int → Int → Mem → Option (Int)
  | 0, _, _, _, _ => none
  | n + 1, v1, v2, v3, M =>
    if v1 ≤ v3 then
      some v2
    else
      if (0 : Int) ≤ w32 (14 + v3) ∧ w32 (14 + v3) < 254 then
      if (M 90 (w32 (14 + v3))) = 10 then
        lt1 (w32 (v2 + 1)) fun v2_30 =>
        lt1 (w32 (v3 + 1)) fun v3_31 =>
        f_X10_lineOf_L4 n v1 v2_30 v3_31 M
      else
        lt1 (w32 (v2 + 0)) fun v2_30 =>
        lt1 (w32 (v3 + 1)) fun v3_31 =>
        f_X10_lineOf_L4 n v1 v2_30 v3_31 M
      else none
def f_X10_lineOf (v1 : Int) (M : Mem) : Option (Int) :=
  f_X10_lineOf_L4 4096 v1 0 0 M
set_option maxRecDepth 20000 in
theorem rn_X10_lineOf_L4 {G : Gl} : ∀ (n : Nat) (v1 : Int) (v2 : Int) (v3 : Int) (M : Mem) (res : Int),  f_X10_lineOf_L4 n v1 v2 v3 M = some res → Run G false (rmD 0 0 0) miX10_lineOf (ZP G (some (aI res)) M) 0 0 4 [some (aR 84), some (aI v1), some (aI v2), some (aI v3)] [] M := by
  intro n
  induction n with
  | zero => intro v1 v2 v3 M res  hf; cases hf
  | succ n ih =>
    intro v1 v2 v3 M res  hf
    rw [f_X10_lineOf_L4] at hf
    refine R_iload_n dX10_lineOf_4 rfl rfl ?_
    refine R_iload_n dX10_lineOf_5 rfl rfl ?_
    refine R_icmp_ge dX10_lineOf_6 rfl (fun h6 => ?_) (fun h6 => ?_)
    · replace hf := iposE hf h6
      refine R_iload_n dX10_lineOf_37 rfl rfl ?_
      cases hf; exact E_iret dX10_lineOf_38 rfl rfl rfl
    · replace hf := inegE hf h6
      refine R_iload_n dX10_lineOf_9 rfl rfl ?_
      refine R_aload_n dX10_lineOf_10 rfl rfl ?_
      refine R_getR dX10_lineOf_11 cl10 flX10_35 o_84 ff10_14 (fr10_14 _) a_90.1 ?_
      refine R_bipush dX10_lineOf_14 (v := 14) rfl ?_
      refine R_iload_n dX10_lineOf_16 rfl rfl ?_
      refine R_iadd dX10_lineOf_17 rfl ?_
      obtain ⟨hg1, hf⟩ := gdE hf
      refine R_iaload dX10_lineOf_18 a_90 hg1.1 hg1.2 rfl ?_
      refine R_bipush dX10_lineOf_19 (v := 10) rfl ?_
      refine R_icmp_ne dX10_lineOf_21 rfl (fun h21 => ?_) (fun h21 => ?_)
      · replace hf := inegE hf h21
        refine R_iconst dX10_lineOf_28 (v := 0) rfl ?_
        refine R_iadd dX10_lineOf_29 rfl ?_
        obtain ⟨v2_30, hv2_30, hf⟩ := ltE hf
        refine R_istore_n dX10_lineOf_30 rfl (by decide) hv2_30 rfl ?_
        obtain ⟨v3_31, hv3_31, hf⟩ := ltE hf
        refine R_iinc dX10_lineOf_31 rfl rfl hv3_31 (by decide) rfl ?_
        refine R_goto dX10_lineOf_34 rfl ?_
        exact R_subk (ih _ _ _ _ _  hf) ⟨rfl, rfl, rfl, rfl, trivial⟩
      · replace hf := iposE hf h21
        refine R_iconst dX10_lineOf_24 (v := 1) rfl ?_
        refine R_goto dX10_lineOf_25 rfl ?_
        refine R_iadd dX10_lineOf_29 rfl ?_
        obtain ⟨v2_30, hv2_30, hf⟩ := ltE hf
        refine R_istore_n dX10_lineOf_30 rfl (by decide) hv2_30 rfl ?_
        obtain ⟨v3_31, hv3_31, hf⟩ := ltE hf
        refine R_iinc dX10_lineOf_31 rfl rfl hv3_31 (by decide) rfl ?_
        refine R_goto dX10_lineOf_34 rfl ?_
        exact R_subk (ih _ _ _ _ _  hf) ⟨rfl, rfl, rfl, rfl, trivial⟩
set_option maxRecDepth 20000 in
theorem ct_X10_lineOf {G : Gl} (v1 : Int) (M : Mem) {res : Int}  (hf : f_X10_lineOf v1 M = some res) : Ct G miX10_lineOf yX10_lineOf 0 [aR 84, aI v1] M (some (aI res)) M := by
  refine Ct.of (L := [some (aR 84), some (aI v1), none, none]) mwX10_lineOf rfl trivial nle ⟨rfl, rfl, trivial⟩ ?_
  unfold f_X10_lineOf at hf
  refine R_iconst dX10_lineOf_0 (v := 0) rfl ?_
  refine R_istore_n dX10_lineOf_1 rfl (by decide) rfl rfl ?_
  refine R_iconst dX10_lineOf_2 (v := 0) rfl ?_
  refine R_istore_n dX10_lineOf_3 rfl (by decide) rfl rfl ?_
  exact R_subk (rn_X10_lineOf_L4 4096 _ _ _ _ _  hf) ⟨rfl, rfl, rfl, rfl, trivial⟩
/-! BracketHallModel.columnOf(I)I -/
def f_X10_columnOf_L2 : Nat → Int → Int → Mem → Option (Int)
  | 0, _, _, _ => none
  | n + 1, v1, v2, M =>
    if v2 ≤ 0 then
      some (w32 (v1 - v2))
    else
      if (0 : Int) ≤ w32 ((w32 (14 + v2)) - 1) ∧ w32 ((w32 (14 + v2)) - 1) < 254 then
      if (M 90 (w32 ((w32 (14 + v2)) - 1))) = 10 then
        some (w32 (v1 - v2))
      else
        lt1 (w32 (v2 + (-1))) fun v2_22 =>
        f_X10_columnOf_L2 n v1 v2_22 M
      else none
def f_X10_columnOf (v1 : Int) (M : Mem) : Option (Int) :=
  f_X10_columnOf_L2 4096 v1 v1 M
set_option maxRecDepth 20000 in
theorem rn_X10_columnOf_L2 {G : Gl} : ∀ (n : Nat) (v1 : Int) (v2 : Int) (M : Mem) (res : Int),  f_X10_columnOf_L2 n v1 v2 M = some res → Run G false (rmD 0 0 0) miX10_columnOf (ZP G (some (aI res)) M) 0 0 2 [some (aR 84), some (aI v1), some (aI v2)] [] M := by
  intro n
  induction n with
  | zero => intro v1 v2 M res  hf; cases hf
  | succ n ih =>
    intro v1 v2 M res  hf
    rw [f_X10_columnOf_L2] at hf
    refine R_iload_n dX10_columnOf_2 rfl rfl ?_
    refine R_if_le dX10_columnOf_3 rfl (fun h3 => ?_) (fun h3 => ?_)
    · replace hf := iposE hf h3
      refine R_iload_n dX10_columnOf_28 rfl rfl ?_
      refine R_iload_n dX10_columnOf_29 rfl rfl ?_
      refine R_isub dX10_columnOf_30 rfl ?_
      cases hf; exact E_iret dX10_columnOf_31 rfl rfl rfl
    · replace hf := inegE hf h3
      refine R_aload_n dX10_columnOf_6 rfl rfl ?_
      refine R_getR dX10_columnOf_7 cl10 flX10_35 o_84 ff10_14 (fr10_14 _) a_90.1 ?_
      refine R_bipush dX10_columnOf_10 (v := 14) rfl ?_
      refine R_iload_n dX10_columnOf_12 rfl rfl ?_
      refine R_iadd dX10_columnOf_13 rfl ?_
      refine R_iconst dX10_columnOf_14 (v := 1) rfl ?_
      refine R_isub dX10_columnOf_15 rfl ?_
      obtain ⟨hg1, hf⟩ := gdE hf
      refine R_iaload dX10_columnOf_16 a_90 hg1.1 hg1.2 rfl ?_
      refine R_bipush dX10_columnOf_17 (v := 10) rfl ?_
      refine R_icmp_eq dX10_columnOf_19 rfl (fun h19 => ?_) (fun h19 => ?_)
      · replace hf := iposE hf h19
        refine R_iload_n dX10_columnOf_28 rfl rfl ?_
        refine R_iload_n dX10_columnOf_29 rfl rfl ?_
        refine R_isub dX10_columnOf_30 rfl ?_
        cases hf; exact E_iret dX10_columnOf_31 rfl rfl rfl
      · replace hf := inegE hf h19
        obtain ⟨v2_22, hv2_22, hf⟩ := ltE hf
        refine R_iinc dX10_columnOf_22 rfl rfl hv2_22 (by decide) rfl ?_
        refine R_goto dX10_columnOf_25 rfl ?_
        exact R_subk (ih _ _ _ _  hf) ⟨rfl, rfl, rfl, trivial⟩
set_option maxRecDepth 20000 in
theorem ct_X10_columnOf {G : Gl} (v1 : Int) (M : Mem) {res : Int}  (hf : f_X10_columnOf v1 M = some res) : Ct G miX10_columnOf yX10_columnOf 0 [aR 84, aI v1] M (some (aI res)) M := by
  refine Ct.of (L := [some (aR 84), some (aI v1), none]) mwX10_columnOf rfl trivial nle ⟨rfl, rfl, trivial⟩ ?_
  unfold f_X10_columnOf at hf
  refine R_iload_n dX10_columnOf_0 rfl rfl ?_
  refine R_istore_n dX10_columnOf_1 rfl (by decide) rfl rfl ?_
  exact R_subk (rn_X10_columnOf_L2 4096 _ _ _ _  hf) ⟨rfl, rfl, rfl, trivial⟩
/-! BracketHallModel.hiddenBytes()I -/
def f_X10_hiddenBytes_L4 : Nat → Int → Int → Mem → Option (Int)
  | 0, _, _, _ => none
  | n + 1, v1, v2, M =>
    if (M 90 0) ≤ v2 then
      some v1
    else
      if (0 : Int) ≤ v2 ∧ v2 < 240 then
      if (M 92 v2) ≤ 0 then
        lt1 (w32 (v1 + 0)) fun v1_30 =>
        lt1 (w32 (v2 + 1)) fun v2_31 =>
        f_X10_hiddenBytes_L4 n v1_30 v2_31 M
      else
        lt1 (w32 (v1 + 1)) fun v1_30 =>
        lt1 (w32 (v2 + 1)) fun v2_31 =>
        f_X10_hiddenBytes_L4 n v1_30 v2_31 M
      else none
def f_X10_hiddenBytes  (M : Mem) : Option (Int) :=
  f_X10_hiddenBytes_L4 4096 0 0 M
set_option maxRecDepth 20000 in
theorem rn_X10_hiddenBytes_L4 {G : Gl} : ∀ (n : Nat) (v1 : Int) (v2 : Int) (M : Mem) (res : Int),  f_X10_hiddenBytes_L4 n v1 v2 M = some res → Run G false (rmD 0 0 0) miX10_hiddenBytes (ZP G (some (aI res)) M) 0 0 4 [some (aR 84), some (aI v1), some (aI v2)] [] M := by
  intro n
  induction n with
  | zero => intro v1 v2 M res  hf; cases hf
  | succ n ih =>
    intro v1 v2 M res  hf
    rw [f_X10_hiddenBytes_L4] at hf
    refine R_iload_n dX10_hiddenBytes_4 rfl rfl ?_
    refine R_aload_n dX10_hiddenBytes_5 rfl rfl ?_
    refine R_getR dX10_hiddenBytes_6 cl10 flX10_35 o_84 ff10_14 (fr10_14 _) a_90.1 ?_
    refine R_iconst dX10_hiddenBytes_9 (v := 0) rfl ?_
    refine R_iaload dX10_hiddenBytes_10 a_90 (by decide) (by decide) rfl ?_
    refine R_icmp_ge dX10_hiddenBytes_11 rfl (fun h11 => ?_) (fun h11 => ?_)
    · replace hf := iposE hf h11
      refine R_iload_n dX10_hiddenBytes_37 rfl rfl ?_
      cases hf; exact E_iret dX10_hiddenBytes_38 rfl rfl rfl
    · replace hf := inegE hf h11
      refine R_iload_n dX10_hiddenBytes_14 rfl rfl ?_
      refine R_aload_n dX10_hiddenBytes_15 rfl rfl ?_
      refine R_getR dX10_hiddenBytes_16 cl10 flX10_45 o_84 ff10_25 (fr10_25 _) a_92.1 ?_
      refine R_iload_n dX10_hiddenBytes_19 rfl rfl ?_
      obtain ⟨hg1, hf⟩ := gdE hf
      refine R_iaload dX10_hiddenBytes_20 a_92 hg1.1 hg1.2 rfl ?_
      refine R_if_le dX10_hiddenBytes_21 rfl (fun h21 => ?_) (fun h21 => ?_)
      · replace hf := iposE hf h21
        refine R_iconst dX10_hiddenBytes_28 (v := 0) rfl ?_
        refine R_iadd dX10_hiddenBytes_29 rfl ?_
        obtain ⟨v1_30, hv1_30, hf⟩ := ltE hf
        refine R_istore_n dX10_hiddenBytes_30 rfl (by decide) hv1_30 rfl ?_
        obtain ⟨v2_31, hv2_31, hf⟩ := ltE hf
        refine R_iinc dX10_hiddenBytes_31 rfl rfl hv2_31 (by decide) rfl ?_
        refine R_goto dX10_hiddenBytes_34 rfl ?_
        exact R_subk (ih _ _ _ _  hf) ⟨rfl, rfl, rfl, trivial⟩
      · replace hf := inegE hf h21
        refine R_iconst dX10_hiddenBytes_24 (v := 1) rfl ?_
        refine R_goto dX10_hiddenBytes_25 rfl ?_
        refine R_iadd dX10_hiddenBytes_29 rfl ?_
        obtain ⟨v1_30, hv1_30, hf⟩ := ltE hf
        refine R_istore_n dX10_hiddenBytes_30 rfl (by decide) hv1_30 rfl ?_
        obtain ⟨v2_31, hv2_31, hf⟩ := ltE hf
        refine R_iinc dX10_hiddenBytes_31 rfl rfl hv2_31 (by decide) rfl ?_
        refine R_goto dX10_hiddenBytes_34 rfl ?_
        exact R_subk (ih _ _ _ _  hf) ⟨rfl, rfl, rfl, trivial⟩
set_option maxRecDepth 20000 in
theorem ct_X10_hiddenBytes {G : Gl}  (M : Mem) {res : Int}  (hf : f_X10_hiddenBytes  M = some res) : Ct G miX10_hiddenBytes yX10_hiddenBytes 0 [aR 84] M (some (aI res)) M := by
  refine Ct.of (L := [some (aR 84), none, none]) mwX10_hiddenBytes rfl trivial nle ⟨rfl, trivial⟩ ?_
  unfold f_X10_hiddenBytes at hf
  refine R_iconst dX10_hiddenBytes_0 (v := 0) rfl ?_
  refine R_istore_n dX10_hiddenBytes_1 rfl (by decide) rfl rfl ?_
  refine R_iconst dX10_hiddenBytes_2 (v := 0) rfl ?_
  refine R_istore_n dX10_hiddenBytes_3 rfl (by decide) rfl rfl ?_
  exact R_subk (rn_X10_hiddenBytes_L4 4096 _ _ _ _  hf) ⟨rfl, rfl, rfl, trivial⟩
/-! BracketHallModel.size(I)I -/
def f_X10_size (v1 : Int) (M : Mem) : Option (Int × Mem) :=
  lt1 (up M 84 0 0) fun M2 =>
  (f_X10_isIn v1 0 13 M2).bind fun p10 =>
  if p10 = 0 then
    (f_X10_throwsIf 1 1 M2).bind fun p22 =>
    if p22.1 = 0 then
      (f_X10_findsPairs p22.2).bind fun p31 =>
      if v1 = 0 then
        some (p31 90 0, p31)
      else if v1 = 1 then
        some (p31 84 26, p31)
      else if v1 = 2 then
        (f_X10_pairs p31).bind fun p105 =>
        some (p105, p31)
      else if v1 = 3 then
        (f_X10_lones p31).bind fun p110 =>
        some (p110, p31)
      else if v1 = 4 then
        some (p31 84 1, p31)
      else if v1 = 5 then
        some (p31 90 10, p31)
      else if v1 = 6 then
        (f_X10_deepest p31).bind fun p128 =>
        some (p128, p31)
      else if v1 = 7 then
        (f_X10_lineOf (p31 90 0) p31).bind fun p139 =>
        some (w32 (p139 + 1), p31)
      else if v1 = 8 then
        some (p31 90 1, p31)
      else if v1 = 9 then
        some (p31 84 46, p31)
      else if v1 = 10 then
        (f_X10_hiddenBytes p31).bind fun p158 =>
        some (p158, p31)
      else
        if (0 : Int) ≤ w32 ((w32 (11 + v1)) - 11) ∧ w32 ((w32 (11 + v1)) - 11) < 254 then
        some (p31 90 (w32 ((w32 (11 + v1)) - 11)), p31)
        else none
    else
      some (0, p22.2)
  else
    (f_X10_throwsIf 0 1 M2).bind fun p22 =>
    if p22.1 = 0 then
      (f_X10_findsPairs p22.2).bind fun p31 =>
      if v1 = 0 then
        some (p31 90 0, p31)
      else if v1 = 1 then
        some (p31 84 26, p31)
      else if v1 = 2 then
        (f_X10_pairs p31).bind fun p105 =>
        some (p105, p31)
      else if v1 = 3 then
        (f_X10_lones p31).bind fun p110 =>
        some (p110, p31)
      else if v1 = 4 then
        some (p31 84 1, p31)
      else if v1 = 5 then
        some (p31 90 10, p31)
      else if v1 = 6 then
        (f_X10_deepest p31).bind fun p128 =>
        some (p128, p31)
      else if v1 = 7 then
        (f_X10_lineOf (p31 90 0) p31).bind fun p139 =>
        some (w32 (p139 + 1), p31)
      else if v1 = 8 then
        some (p31 90 1, p31)
      else if v1 = 9 then
        some (p31 84 46, p31)
      else if v1 = 10 then
        (f_X10_hiddenBytes p31).bind fun p158 =>
        some (p158, p31)
      else
        if (0 : Int) ≤ w32 ((w32 (11 + v1)) - 11) ∧ w32 ((w32 (11 + v1)) - 11) < 254 then
        some (p31 90 (w32 ((w32 (11 + v1)) - 11)), p31)
        else none
    else
      some (0, p22.2)
set_option maxRecDepth 20000 in
theorem ct_X10_size {G : Gl} (v1 : Int) (M : Mem) {res : Int × Mem}  (hf : f_X10_size v1 M = some res) : Ct G miX10_size yX10_size 4 [aR 84, aI v1] M (some (aI res.1)) res.2 := by
  refine Ct.of (L := [some (aR 84), some (aI v1)]) mwX10_size rfl trivial nle ⟨rfl, rfl, trivial⟩ ?_
  unfold f_X10_size at hf
  refine R_aload_n dX10_size_0 rfl rfl ?_
  refine R_iconst dX10_size_1 (v := 0) rfl ?_
  obtain ⟨M2, hM2, hf⟩ := ltE hf
  refine R_put (ki := 0) dX10_size_2 cl10 flX10_117 o_84 (Or.inl fz10_0) rfl hM2 ?_
  refine R_aload_n dX10_size_5 rfl rfl ?_
  refine R_iload_n dX10_size_6 rfl rfl ?_
  refine R_iconst dX10_size_7 (v := 0) rfl ?_
  refine R_bipush dX10_size_8 (v := 13) rfl ?_
  obtain ⟨p10, hp10, hf⟩ := bdE hf
  refine R_callS (As := [aI v1, aI 0, aI 13]) (st := [aR 84]) dX10_size_10 (ct_X10_isIn _ _ _ _  hp10) mwX10_isIn msX10_isIn mlX10_130 rfl ⟨nle, nle, nle, nle⟩ nle rfl ?_
  refine R_if_ne dX10_size_13 rfl (fun h13 => ?_) (fun h13 => ?_)
  · replace hf := inegE hf h13
    refine R_iconst dX10_size_20 (v := 0) rfl ?_
    refine R_iconst dX10_size_21 (v := 1) rfl ?_
    obtain ⟨p22, hp22, hf⟩ := bdE hf
    refine R_callV (As := [aI 0, aI 1]) (st := []) dX10_size_22 (ct_X10_throwsIf _ _ _  hp22) mwX10_throwsIf mvX10_throwsIf mlX10_227 cl10 o_84 rfl rfl ⟨nle, nle, nle, nle⟩ nle rfl ?_
    refine R_if_eq dX10_size_25 rfl (fun h25 => ?_) (fun h25 => ?_)
    · replace hf := iposE hf h25
      refine R_aload_n dX10_size_30 rfl rfl ?_
      obtain ⟨p31, hp31, hf⟩ := bdE hf
      refine R_callV (As := []) (st := []) dX10_size_31 (ct_X10_findsPairs  _  hp31) mwX10_findsPairs mvX10_findsPairs mlX10_292 cl10 o_84 rfl rfl ⟨nle, nle, nle, nle⟩ nle rfl ?_
      refine R_iload_n dX10_size_34 rfl rfl ?_
      by_cases h35_0 : v1 = 0
      · replace hf := iposE hf h35_0
        refine R_switchIn dX10_size_35 (by omega) (by omega) (by rw [h35_0]; rfl) rfl ?_
        refine R_aload_n dX10_size_92 rfl rfl ?_
        refine R_getR dX10_size_93 cl10 flX10_35 o_84 ff10_14 (fr10_14 _) a_90.1 ?_
        refine R_iconst dX10_size_96 (v := 0) rfl ?_
        refine R_iaload dX10_size_97 a_90 (by decide) (by decide) rfl ?_
        cases hf; exact E_iret dX10_size_98 rfl rfl rfl
      replace hf := inegE hf h35_0
      by_cases h35_1 : v1 = 1
      · replace hf := iposE hf h35_1
        refine R_switchIn dX10_size_35 (by omega) (by omega) (by rw [h35_1]; rfl) rfl ?_
        refine R_aload_n dX10_size_99 rfl rfl ?_
        refine R_getI (ki := 26) dX10_size_100 cl10 flX10_264 o_84 ff10_26 rfl rfl ?_
        cases hf; exact E_iret dX10_size_103 rfl rfl rfl
      replace hf := inegE hf h35_1
      by_cases h35_2 : v1 = 2
      · replace hf := iposE hf h35_2
        refine R_switchIn dX10_size_35 (by omega) (by omega) (by rw [h35_2]; rfl) rfl ?_
        refine R_aload_n dX10_size_104 rfl rfl ?_
        obtain ⟨p105, hp105, hf⟩ := bdE hf
        refine R_callV (As := []) (st := []) dX10_size_105 (ct_X10_pairs  _  hp105) mwX10_pairs mvX10_pairs mlX10_295 cl10 o_84 rfl rfl ⟨nle, nle, nle, nle⟩ nle rfl ?_
        cases hf; exact E_iret dX10_size_108 rfl rfl rfl
      replace hf := inegE hf h35_2
      by_cases h35_3 : v1 = 3
      · replace hf := iposE hf h35_3
        refine R_switchIn dX10_size_35 (by omega) (by omega) (by rw [h35_3]; rfl) rfl ?_
        refine R_aload_n dX10_size_109 rfl rfl ?_
        obtain ⟨p110, hp110, hf⟩ := bdE hf
        refine R_callV (As := []) (st := []) dX10_size_110 (ct_X10_lones  _  hp110) mwX10_lones mvX10_lones mlX10_298 cl10 o_84 rfl rfl ⟨nle, nle, nle, nle⟩ nle rfl ?_
        cases hf; exact E_iret dX10_size_113 rfl rfl rfl
      replace hf := inegE hf h35_3
      by_cases h35_4 : v1 = 4
      · replace hf := iposE hf h35_4
        refine R_switchIn dX10_size_35 (by omega) (by omega) (by rw [h35_4]; rfl) rfl ?_
        refine R_aload_n dX10_size_114 rfl rfl ?_
        refine R_getI (ki := 1) dX10_size_115 cl10 flX10_110 o_84 ff10_1 rfl rfl ?_
        cases hf; exact E_iret dX10_size_118 rfl rfl rfl
      replace hf := inegE hf h35_4
      by_cases h35_5 : v1 = 5
      · replace hf := iposE hf h35_5
        refine R_switchIn dX10_size_35 (by omega) (by omega) (by rw [h35_5]; rfl) rfl ?_
        refine R_aload_n dX10_size_119 rfl rfl ?_
        refine R_getR dX10_size_120 cl10 flX10_35 o_84 ff10_14 (fr10_14 _) a_90.1 ?_
        refine R_bipush dX10_size_123 (v := 10) rfl ?_
        refine R_iaload dX10_size_125 a_90 (by decide) (by decide) rfl ?_
        cases hf; exact E_iret dX10_size_126 rfl rfl rfl
      replace hf := inegE hf h35_5
      by_cases h35_6 : v1 = 6
      · replace hf := iposE hf h35_6
        refine R_switchIn dX10_size_35 (by omega) (by omega) (by rw [h35_6]; rfl) rfl ?_
        refine R_aload_n dX10_size_127 rfl rfl ?_
        obtain ⟨p128, hp128, hf⟩ := bdE hf
        refine R_callV (As := []) (st := []) dX10_size_128 (ct_X10_deepest  _  hp128) mwX10_deepest mvX10_deepest mlX10_301 cl10 o_84 rfl rfl ⟨nle, nle, nle, nle⟩ nle rfl ?_
        cases hf; exact E_iret dX10_size_131 rfl rfl rfl
      replace hf := inegE hf h35_6
      by_cases h35_7 : v1 = 7
      · replace hf := iposE hf h35_7
        refine R_switchIn dX10_size_35 (by omega) (by omega) (by rw [h35_7]; rfl) rfl ?_
        refine R_aload_n dX10_size_132 rfl rfl ?_
        refine R_aload_n dX10_size_133 rfl rfl ?_
        refine R_getR dX10_size_134 cl10 flX10_35 o_84 ff10_14 (fr10_14 _) a_90.1 ?_
        refine R_iconst dX10_size_137 (v := 0) rfl ?_
        refine R_iaload dX10_size_138 a_90 (by decide) (by decide) rfl ?_
        obtain ⟨p139, hp139, hf⟩ := bdE hf
        refine R_callV (As := [aI (p31 90 0)]) (st := []) dX10_size_139 (ct_X10_lineOf _ _  hp139) mwX10_lineOf mvX10_lineOf mlX10_304 cl10 o_84 rfl rfl ⟨nle, nle, nle, nle⟩ nle rfl ?_
        refine R_iconst dX10_size_142 (v := 1) rfl ?_
        refine R_iadd dX10_size_143 rfl ?_
        cases hf; exact E_iret dX10_size_144 rfl rfl rfl
      replace hf := inegE hf h35_7
      by_cases h35_8 : v1 = 8
      · replace hf := iposE hf h35_8
        refine R_switchIn dX10_size_35 (by omega) (by omega) (by rw [h35_8]; rfl) rfl ?_
        refine R_aload_n dX10_size_145 rfl rfl ?_
        refine R_getR dX10_size_146 cl10 flX10_35 o_84 ff10_14 (fr10_14 _) a_90.1 ?_
        refine R_iconst dX10_size_149 (v := 1) rfl ?_
        refine R_iaload dX10_size_150 a_90 (by decide) (by decide) rfl ?_
        cases hf; exact E_iret dX10_size_151 rfl rfl rfl
      replace hf := inegE hf h35_8
      by_cases h35_9 : v1 = 9
      · replace hf := iposE hf h35_9
        refine R_switchIn dX10_size_35 (by omega) (by omega) (by rw [h35_9]; rfl) rfl ?_
        refine R_aload_n dX10_size_152 rfl rfl ?_
        refine R_getI (ki := 46) dX10_size_153 cl10 flX10_251 o_84 ff10_46 rfl rfl ?_
        cases hf; exact E_iret dX10_size_156 rfl rfl rfl
      replace hf := inegE hf h35_9
      by_cases h35_10 : v1 = 10
      · replace hf := iposE hf h35_10
        refine R_switchIn dX10_size_35 (by omega) (by omega) (by rw [h35_10]; rfl) rfl ?_
        refine R_aload_n dX10_size_157 rfl rfl ?_
        obtain ⟨p158, hp158, hf⟩ := bdE hf
        refine R_callV (As := []) (st := []) dX10_size_158 (ct_X10_hiddenBytes  _  hp158) mwX10_hiddenBytes mvX10_hiddenBytes mlX10_307 cl10 o_84 rfl rfl ⟨nle, nle, nle, nle⟩ nle rfl ?_
        cases hf; exact E_iret dX10_size_161 rfl rfl rfl
      replace hf := inegE hf h35_10
      refine R_switchOut dX10_size_35 (by omega) rfl ?_
      refine R_aload_n dX10_size_162 rfl rfl ?_
      refine R_getR dX10_size_163 cl10 flX10_35 o_84 ff10_14 (fr10_14 _) a_90.1 ?_
      refine R_bipush dX10_size_166 (v := 11) rfl ?_
      refine R_iload_n dX10_size_168 rfl rfl ?_
      refine R_iadd dX10_size_169 rfl ?_
      refine R_bipush dX10_size_170 (v := 11) rfl ?_
      refine R_isub dX10_size_172 rfl ?_
      obtain ⟨hg1, hf⟩ := gdE hf
      refine R_iaload dX10_size_173 a_90 hg1.1 hg1.2 rfl ?_
      cases hf; exact E_iret dX10_size_174 rfl rfl rfl
    · replace hf := inegE hf h25
      refine R_iconst dX10_size_28 (v := 0) rfl ?_
      cases hf; exact E_iret dX10_size_29 rfl rfl rfl
  · replace hf := iposE hf h13
    refine R_iconst dX10_size_16 (v := 1) rfl ?_
    refine R_goto dX10_size_17 rfl ?_
    refine R_iconst dX10_size_21 (v := 1) rfl ?_
    obtain ⟨p22, hp22, hf⟩ := bdE hf
    refine R_callV (As := [aI 1, aI 1]) (st := []) dX10_size_22 (ct_X10_throwsIf _ _ _  hp22) mwX10_throwsIf mvX10_throwsIf mlX10_227 cl10 o_84 rfl rfl ⟨nle, nle, nle, nle⟩ nle rfl ?_
    refine R_if_eq dX10_size_25 rfl (fun h25 => ?_) (fun h25 => ?_)
    · replace hf := iposE hf h25
      refine R_aload_n dX10_size_30 rfl rfl ?_
      obtain ⟨p31, hp31, hf⟩ := bdE hf
      refine R_callV (As := []) (st := []) dX10_size_31 (ct_X10_findsPairs  _  hp31) mwX10_findsPairs mvX10_findsPairs mlX10_292 cl10 o_84 rfl rfl ⟨nle, nle, nle, nle⟩ nle rfl ?_
      refine R_iload_n dX10_size_34 rfl rfl ?_
      by_cases h35_0 : v1 = 0
      · replace hf := iposE hf h35_0
        refine R_switchIn dX10_size_35 (by omega) (by omega) (by rw [h35_0]; rfl) rfl ?_
        refine R_aload_n dX10_size_92 rfl rfl ?_
        refine R_getR dX10_size_93 cl10 flX10_35 o_84 ff10_14 (fr10_14 _) a_90.1 ?_
        refine R_iconst dX10_size_96 (v := 0) rfl ?_
        refine R_iaload dX10_size_97 a_90 (by decide) (by decide) rfl ?_
        cases hf; exact E_iret dX10_size_98 rfl rfl rfl
      replace hf := inegE hf h35_0
      by_cases h35_1 : v1 = 1
      · replace hf := iposE hf h35_1
        refine R_switchIn dX10_size_35 (by omega) (by omega) (by rw [h35_1]; rfl) rfl ?_
        refine R_aload_n dX10_size_99 rfl rfl ?_
        refine R_getI (ki := 26) dX10_size_100 cl10 flX10_264 o_84 ff10_26 rfl rfl ?_
        cases hf; exact E_iret dX10_size_103 rfl rfl rfl
      replace hf := inegE hf h35_1
      by_cases h35_2 : v1 = 2
      · replace hf := iposE hf h35_2
        refine R_switchIn dX10_size_35 (by omega) (by omega) (by rw [h35_2]; rfl) rfl ?_
        refine R_aload_n dX10_size_104 rfl rfl ?_
        obtain ⟨p105, hp105, hf⟩ := bdE hf
        refine R_callV (As := []) (st := []) dX10_size_105 (ct_X10_pairs  _  hp105) mwX10_pairs mvX10_pairs mlX10_295 cl10 o_84 rfl rfl ⟨nle, nle, nle, nle⟩ nle rfl ?_
        cases hf; exact E_iret dX10_size_108 rfl rfl rfl
      replace hf := inegE hf h35_2
      by_cases h35_3 : v1 = 3
      · replace hf := iposE hf h35_3
        refine R_switchIn dX10_size_35 (by omega) (by omega) (by rw [h35_3]; rfl) rfl ?_
        refine R_aload_n dX10_size_109 rfl rfl ?_
        obtain ⟨p110, hp110, hf⟩ := bdE hf
        refine R_callV (As := []) (st := []) dX10_size_110 (ct_X10_lones  _  hp110) mwX10_lones mvX10_lones mlX10_298 cl10 o_84 rfl rfl ⟨nle, nle, nle, nle⟩ nle rfl ?_
        cases hf; exact E_iret dX10_size_113 rfl rfl rfl
      replace hf := inegE hf h35_3
      by_cases h35_4 : v1 = 4
      · replace hf := iposE hf h35_4
        refine R_switchIn dX10_size_35 (by omega) (by omega) (by rw [h35_4]; rfl) rfl ?_
        refine R_aload_n dX10_size_114 rfl rfl ?_
        refine R_getI (ki := 1) dX10_size_115 cl10 flX10_110 o_84 ff10_1 rfl rfl ?_
        cases hf; exact E_iret dX10_size_118 rfl rfl rfl
      replace hf := inegE hf h35_4
      by_cases h35_5 : v1 = 5
      · replace hf := iposE hf h35_5
        refine R_switchIn dX10_size_35 (by omega) (by omega) (by rw [h35_5]; rfl) rfl ?_
        refine R_aload_n dX10_size_119 rfl rfl ?_
        refine R_getR dX10_size_120 cl10 flX10_35 o_84 ff10_14 (fr10_14 _) a_90.1 ?_
        refine R_bipush dX10_size_123 (v := 10) rfl ?_
        refine R_iaload dX10_size_125 a_90 (by decide) (by decide) rfl ?_
        cases hf; exact E_iret dX10_size_126 rfl rfl rfl
      replace hf := inegE hf h35_5
      by_cases h35_6 : v1 = 6
      · replace hf := iposE hf h35_6
        refine R_switchIn dX10_size_35 (by omega) (by omega) (by rw [h35_6]; rfl) rfl ?_
        refine R_aload_n dX10_size_127 rfl rfl ?_
        obtain ⟨p128, hp128, hf⟩ := bdE hf
        refine R_callV (As := []) (st := []) dX10_size_128 (ct_X10_deepest  _  hp128) mwX10_deepest mvX10_deepest mlX10_301 cl10 o_84 rfl rfl ⟨nle, nle, nle, nle⟩ nle rfl ?_
        cases hf; exact E_iret dX10_size_131 rfl rfl rfl
      replace hf := inegE hf h35_6
      by_cases h35_7 : v1 = 7
      · replace hf := iposE hf h35_7
        refine R_switchIn dX10_size_35 (by omega) (by omega) (by rw [h35_7]; rfl) rfl ?_
        refine R_aload_n dX10_size_132 rfl rfl ?_
        refine R_aload_n dX10_size_133 rfl rfl ?_
        refine R_getR dX10_size_134 cl10 flX10_35 o_84 ff10_14 (fr10_14 _) a_90.1 ?_
        refine R_iconst dX10_size_137 (v := 0) rfl ?_
        refine R_iaload dX10_size_138 a_90 (by decide) (by decide) rfl ?_
        obtain ⟨p139, hp139, hf⟩ := bdE hf
        refine R_callV (As := [aI (p31 90 0)]) (st := []) dX10_size_139 (ct_X10_lineOf _ _  hp139) mwX10_lineOf mvX10_lineOf mlX10_304 cl10 o_84 rfl rfl ⟨nle, nle, nle, nle⟩ nle rfl ?_
        refine R_iconst dX10_size_142 (v := 1) rfl ?_
        refine R_iadd dX10_size_143 rfl ?_
        cases hf; exact E_iret dX10_size_144 rfl rfl rfl
      replace hf := inegE hf h35_7
      by_cases h35_8 : v1 = 8
      · replace hf := iposE hf h35_8
        refine R_switchIn dX10_size_35 (by omega) (by omega) (by rw [h35_8]; rfl) rfl ?_
        refine R_aload_n dX10_size_145 rfl rfl ?_
        refine R_getR dX10_size_146 cl10 flX10_35 o_84 ff10_14 (fr10_14 _) a_90.1 ?_
        refine R_iconst dX10_size_149 (v := 1) rfl ?_
        refine R_iaload dX10_size_150 a_90 (by decide) (by decide) rfl ?_
        cases hf; exact E_iret dX10_size_151 rfl rfl rfl
      replace hf := inegE hf h35_8
      by_cases h35_9 : v1 = 9
      · replace hf := iposE hf h35_9
        refine R_switchIn dX10_size_35 (by omega) (by omega) (by rw [h35_9]; rfl) rfl ?_
        refine R_aload_n dX10_size_152 rfl rfl ?_
        refine R_getI (ki := 46) dX10_size_153 cl10 flX10_251 o_84 ff10_46 rfl rfl ?_
        cases hf; exact E_iret dX10_size_156 rfl rfl rfl
      replace hf := inegE hf h35_9
      by_cases h35_10 : v1 = 10
      · replace hf := iposE hf h35_10
        refine R_switchIn dX10_size_35 (by omega) (by omega) (by rw [h35_10]; rfl) rfl ?_
        refine R_aload_n dX10_size_157 rfl rfl ?_
        obtain ⟨p158, hp158, hf⟩ := bdE hf
        refine R_callV (As := []) (st := []) dX10_size_158 (ct_X10_hiddenBytes  _  hp158) mwX10_hiddenBytes mvX10_hiddenBytes mlX10_307 cl10 o_84 rfl rfl ⟨nle, nle, nle, nle⟩ nle rfl ?_
        cases hf; exact E_iret dX10_size_161 rfl rfl rfl
      replace hf := inegE hf h35_10
      refine R_switchOut dX10_size_35 (by omega) rfl ?_
      refine R_aload_n dX10_size_162 rfl rfl ?_
      refine R_getR dX10_size_163 cl10 flX10_35 o_84 ff10_14 (fr10_14 _) a_90.1 ?_
      refine R_bipush dX10_size_166 (v := 11) rfl ?_
      refine R_iload_n dX10_size_168 rfl rfl ?_
      refine R_iadd dX10_size_169 rfl ?_
      refine R_bipush dX10_size_170 (v := 11) rfl ?_
      refine R_isub dX10_size_172 rfl ?_
      obtain ⟨hg2, hf⟩ := gdE hf
      refine R_iaload dX10_size_173 a_90 hg2.1 hg2.2 rfl ?_
      cases hf; exact E_iret dX10_size_174 rfl rfl rfl
    · replace hf := inegE hf h25
      refine R_iconst dX10_size_28 (v := 0) rfl ?_
      cases hf; exact E_iret dX10_size_29 rfl rfl rfl
/-! BracketHallModel.noPlace(I)Z -/
def f_X10_noPlace (v1 : Int) (M : Mem) : Option (Int × Mem) :=
  lt1 (up M 84 0 0) fun M2 =>
  (f_X10_findsPairs M2).bind fun p6 =>
  (f_X10_isIn v1 0 (w32 ((p6 90 0) - 1)) p6).bind fun p20 =>
  if p20 = 0 then
    (f_X10_throwsIf 1 1 p6).bind fun p32 =>
    if p32.1 = 0 ∨ p32.1 = 1 then
    some (p32.1, p32.2)
    else none
  else
    (f_X10_throwsIf 0 1 p6).bind fun p32 =>
    if p32.1 = 0 ∨ p32.1 = 1 then
    some (p32.1, p32.2)
    else none
set_option maxRecDepth 20000 in
theorem ct_X10_noPlace {G : Gl} (v1 : Int) (M : Mem) {res : Int × Mem}  (hf : f_X10_noPlace v1 M = some res) : Ct G miX10_noPlace yX10_noPlace 4 [aR 84, aI v1] M (some (aI res.1)) res.2 := by
  refine Ct.of (L := [some (aR 84), some (aI v1)]) mwX10_noPlace rfl trivial nle ⟨rfl, rfl, trivial⟩ ?_
  unfold f_X10_noPlace at hf
  refine R_aload_n dX10_noPlace_0 rfl rfl ?_
  refine R_iconst dX10_noPlace_1 (v := 0) rfl ?_
  obtain ⟨M2, hM2, hf⟩ := ltE hf
  refine R_put (ki := 0) dX10_noPlace_2 cl10 flX10_117 o_84 (Or.inl fz10_0) rfl hM2 ?_
  refine R_aload_n dX10_noPlace_5 rfl rfl ?_
  obtain ⟨p6, hp6, hf⟩ := bdE hf
  refine R_callV (As := []) (st := []) dX10_noPlace_6 (ct_X10_findsPairs  _  hp6) mwX10_findsPairs mvX10_findsPairs mlX10_292 cl10 o_84 rfl rfl ⟨nle, nle, nle, nle⟩ nle rfl ?_
  refine R_aload_n dX10_noPlace_9 rfl rfl ?_
  refine R_iload_n dX10_noPlace_10 rfl rfl ?_
  refine R_iconst dX10_noPlace_11 (v := 0) rfl ?_
  refine R_aload_n dX10_noPlace_12 rfl rfl ?_
  refine R_getR dX10_noPlace_13 cl10 flX10_35 o_84 ff10_14 (fr10_14 _) a_90.1 ?_
  refine R_iconst dX10_noPlace_16 (v := 0) rfl ?_
  refine R_iaload dX10_noPlace_17 a_90 (by decide) (by decide) rfl ?_
  refine R_iconst dX10_noPlace_18 (v := 1) rfl ?_
  refine R_isub dX10_noPlace_19 rfl ?_
  obtain ⟨p20, hp20, hf⟩ := bdE hf
  refine R_callS (As := [aI v1, aI 0, aI (w32 ((p6 90 0) - 1))]) (st := [aR 84]) dX10_noPlace_20 (ct_X10_isIn _ _ _ _  hp20) mwX10_isIn msX10_isIn mlX10_130 rfl ⟨nle, nle, nle, nle⟩ nle rfl ?_
  refine R_if_ne dX10_noPlace_23 rfl (fun h23 => ?_) (fun h23 => ?_)
  · replace hf := inegE hf h23
    refine R_iconst dX10_noPlace_30 (v := 0) rfl ?_
    refine R_iconst dX10_noPlace_31 (v := 1) rfl ?_
    obtain ⟨p32, hp32, hf⟩ := bdE hf
    refine R_callV (As := [aI 0, aI 1]) (st := []) dX10_noPlace_32 (ct_X10_throwsIf _ _ _  hp32) mwX10_throwsIf mvX10_throwsIf mlX10_227 cl10 o_84 rfl rfl ⟨nle, nle, nle, nle⟩ nle rfl ?_
    obtain ⟨hb, hf⟩ := gdE hf
    cases hf; exact E_zret dX10_noPlace_35 rfl hb rfl rfl
  · replace hf := iposE hf h23
    refine R_iconst dX10_noPlace_26 (v := 1) rfl ?_
    refine R_goto dX10_noPlace_27 rfl ?_
    refine R_iconst dX10_noPlace_31 (v := 1) rfl ?_
    obtain ⟨p32, hp32, hf⟩ := bdE hf
    refine R_callV (As := [aI 1, aI 1]) (st := []) dX10_noPlace_32 (ct_X10_throwsIf _ _ _  hp32) mwX10_throwsIf mvX10_throwsIf mlX10_227 cl10 o_84 rfl rfl ⟨nle, nle, nle, nle⟩ nle rfl ?_
    obtain ⟨hb, hf⟩ := gdE hf
    cases hf; exact E_zret dX10_noPlace_35 rfl hb rfl rfl
/-! BracketHallModel.hasPartner(I)Z -/
def f_X10_hasPartner (v1 : Int) (M : Mem) : Option (Int) :=
  if v1 = (-1) then
    some 0
  else
    if (0 : Int) ≤ v1 ∧ v1 < 240 then
    if (M 96 v1) = (-1) then
      some 0
    else
      some 1
    else none
set_option maxRecDepth 20000 in
theorem ct_X10_hasPartner {G : Gl} (v1 : Int) (M : Mem) {res : Int}  (hf : f_X10_hasPartner v1 M = some res) : Ct G miX10_hasPartner yX10_hasPartner 0 [aR 84, aI v1] M (some (aI res)) M := by
  refine Ct.of (L := [some (aR 84), some (aI v1)]) mwX10_hasPartner rfl trivial nle ⟨rfl, rfl, trivial⟩ ?_
  unfold f_X10_hasPartner at hf
  refine R_iload_n dX10_hasPartner_0 rfl rfl ?_
  refine R_iconst dX10_hasPartner_1 (v := (-1)) rfl ?_
  refine R_icmp_eq dX10_hasPartner_2 rfl (fun h2 => ?_) (fun h2 => ?_)
  · replace hf := iposE hf h2
    refine R_iconst dX10_hasPartner_19 (v := 0) rfl ?_
    cases hf; exact E_zret dX10_hasPartner_20 rfl (by decide) rfl rfl
  · replace hf := inegE hf h2
    refine R_aload_n dX10_hasPartner_5 rfl rfl ?_
    refine R_getR dX10_hasPartner_6 cl10 flX10_58 o_84 ff10_30 (fr10_30 _) a_96.1 ?_
    refine R_iload_n dX10_hasPartner_9 rfl rfl ?_
    obtain ⟨hg1, hf⟩ := gdE hf
    refine R_iaload dX10_hasPartner_10 a_96 hg1.1 hg1.2 rfl ?_
    refine R_iconst dX10_hasPartner_11 (v := (-1)) rfl ?_
    refine R_icmp_eq dX10_hasPartner_12 rfl (fun h12 => ?_) (fun h12 => ?_)
    · replace hf := iposE hf h12
      refine R_iconst dX10_hasPartner_19 (v := 0) rfl ?_
      cases hf; exact E_zret dX10_hasPartner_20 rfl (by decide) rfl rfl
    · replace hf := inegE hf h12
      refine R_iconst dX10_hasPartner_15 (v := 1) rfl ?_
      refine R_goto dX10_hasPartner_16 rfl ?_
      cases hf; exact E_zret dX10_hasPartner_20 rfl (by decide) rfl rfl
/-! BracketHallModel.look(II)I -/
def f_X10_look (v1 : Int) (v2 : Int) (M : Mem) : Option (Int × Mem) :=
  (f_X10_noPlace v1 M).bind fun p2 =>
  if p2.1 = 0 then
    (f_X10_isIn v2 0 8 p2.2).bind fun p13 =>
    if p13 = 0 then
      (f_X10_throwsIf 1 2 p2.2).bind fun p25 =>
      if p25.1 = 0 then
        (f_X10_bracketAt v1 p25.2).bind fun p35 =>
        if v2 = 0 then
          if (0 : Int) ≤ w32 (14 + v1) ∧ w32 (14 + v1) < 254 then
          some (p25.2 90 (w32 (14 + v1)), p25.2)
          else none
        else if v2 = 1 then
          if p35 = (-1) then
            some ((-1), p25.2)
          else
            if (0 : Int) ≤ p35 ∧ p35 < 240 then
            some (p25.2 94 p35, p25.2)
            else none
        else if v2 = 2 then
          if p35 = (-1) then
            some ((-1), p25.2)
          else
            if (0 : Int) ≤ p35 ∧ p35 < 240 then
            if (p25.2 95 p35) = 0 then
              some (0, p25.2)
            else
              some (1, p25.2)
            else none
        else if v2 = 3 then
          (f_X10_hasPartner p35 p25.2).bind fun p140 =>
          if p140 = 0 then
            some ((-1), p25.2)
          else
            (f_X10_end p35 p25.2).bind fun p148 =>
            some (p148, p25.2)
        else if v2 = 4 then
          (f_X10_depthAt v1 p25.2).bind fun p158 =>
          some (p158, p25.2)
        else if v2 = 5 then
          (f_X10_hasPartner p35 p25.2).bind fun p164 =>
          if p164 = 0 then
            some ((-1), p25.2)
          else
            (f_X10_depthAt v1 p25.2).bind fun p172 =>
            if p25.2 90 10 = 0 then none else
            some (irm p172 (p25.2 90 10), p25.2)
        else if v2 = 6 then
          if (0 : Int) ≤ v1 ∧ v1 < 240 then
          some (p25.2 92 v1, p25.2)
          else none
        else if v2 = 7 then
          (f_X10_lineOf v1 p25.2).bind fun p197 =>
          some (p197, p25.2)
        else
          (f_X10_columnOf v1 p25.2).bind fun p203 =>
          some (p203, p25.2)
      else
        some (0, p25.2)
    else
      (f_X10_throwsIf 0 2 p2.2).bind fun p25 =>
      if p25.1 = 0 then
        (f_X10_bracketAt v1 p25.2).bind fun p35 =>
        if v2 = 0 then
          if (0 : Int) ≤ w32 (14 + v1) ∧ w32 (14 + v1) < 254 then
          some (p25.2 90 (w32 (14 + v1)), p25.2)
          else none
        else if v2 = 1 then
          if p35 = (-1) then
            some ((-1), p25.2)
          else
            if (0 : Int) ≤ p35 ∧ p35 < 240 then
            some (p25.2 94 p35, p25.2)
            else none
        else if v2 = 2 then
          if p35 = (-1) then
            some ((-1), p25.2)
          else
            if (0 : Int) ≤ p35 ∧ p35 < 240 then
            if (p25.2 95 p35) = 0 then
              some (0, p25.2)
            else
              some (1, p25.2)
            else none
        else if v2 = 3 then
          (f_X10_hasPartner p35 p25.2).bind fun p140 =>
          if p140 = 0 then
            some ((-1), p25.2)
          else
            (f_X10_end p35 p25.2).bind fun p148 =>
            some (p148, p25.2)
        else if v2 = 4 then
          (f_X10_depthAt v1 p25.2).bind fun p158 =>
          some (p158, p25.2)
        else if v2 = 5 then
          (f_X10_hasPartner p35 p25.2).bind fun p164 =>
          if p164 = 0 then
            some ((-1), p25.2)
          else
            (f_X10_depthAt v1 p25.2).bind fun p172 =>
            if p25.2 90 10 = 0 then none else
            some (irm p172 (p25.2 90 10), p25.2)
        else if v2 = 6 then
          if (0 : Int) ≤ v1 ∧ v1 < 240 then
          some (p25.2 92 v1, p25.2)
          else none
        else if v2 = 7 then
          (f_X10_lineOf v1 p25.2).bind fun p197 =>
          some (p197, p25.2)
        else
          (f_X10_columnOf v1 p25.2).bind fun p203 =>
          some (p203, p25.2)
      else
        some (0, p25.2)
  else
    some (0, p2.2)
set_option maxRecDepth 20000 in
theorem ct_X10_look {G : Gl} (v1 : Int) (v2 : Int) (M : Mem) {res : Int × Mem}  (hf : f_X10_look v1 v2 M = some res) : Ct G miX10_look yX10_look 5 [aR 84, aI v1, aI v2] M (some (aI res.1)) res.2 := by
  refine Ct.of (L := [some (aR 84), some (aI v1), some (aI v2), none]) mwX10_look rfl trivial nle ⟨rfl, rfl, rfl, trivial⟩ ?_
  unfold f_X10_look at hf
  refine R_aload_n dX10_look_0 rfl rfl ?_
  refine R_iload_n dX10_look_1 rfl rfl ?_
  obtain ⟨p2, hp2, hf⟩ := bdE hf
  refine R_callV (As := [aI v1]) (st := []) dX10_look_2 (ct_X10_noPlace _ _  hp2) mwX10_noPlace mvX10_noPlace mlX10_310 cl10 o_84 rfl rfl ⟨nle, nle, nle, nle⟩ nle rfl ?_
  refine R_if_ne dX10_look_5 rfl (fun h5 => ?_) (fun h5 => ?_)
  · replace hf := inegE hf h5
    refine R_iconst dX10_look_31 (v := 0) rfl ?_
    cases hf; exact E_iret dX10_look_32 rfl rfl rfl
  · replace hf := iposE hf h5
    refine R_aload_n dX10_look_8 rfl rfl ?_
    refine R_iload_n dX10_look_9 rfl rfl ?_
    refine R_iconst dX10_look_10 (v := 0) rfl ?_
    refine R_bipush dX10_look_11 (v := 8) rfl ?_
    obtain ⟨p13, hp13, hf⟩ := bdE hf
    refine R_callS (As := [aI v2, aI 0, aI 8]) (st := [aR 84]) dX10_look_13 (ct_X10_isIn _ _ _ _  hp13) mwX10_isIn msX10_isIn mlX10_130 rfl ⟨nle, nle, nle, nle⟩ nle rfl ?_
    refine R_if_ne dX10_look_16 rfl (fun h16 => ?_) (fun h16 => ?_)
    · replace hf := inegE hf h16
      refine R_iconst dX10_look_23 (v := 0) rfl ?_
      refine R_iconst dX10_look_24 (v := 2) rfl ?_
      obtain ⟨p25, hp25, hf⟩ := bdE hf
      refine R_callV (As := [aI 0, aI 2]) (st := []) dX10_look_25 (ct_X10_throwsIf _ _ _  hp25) mwX10_throwsIf mvX10_throwsIf mlX10_227 cl10 o_84 rfl rfl ⟨nle, nle, nle, nle⟩ nle rfl ?_
      refine R_if_eq dX10_look_28 rfl (fun h28 => ?_) (fun h28 => ?_)
      · replace hf := iposE hf h28
        refine R_aload_n dX10_look_33 rfl rfl ?_
        refine R_iload_n dX10_look_34 rfl rfl ?_
        obtain ⟨p35, hp35, hf⟩ := bdE hf
        refine R_callV (As := [aI v1]) (st := []) dX10_look_35 (ct_X10_bracketAt _ _  hp35) mwX10_bracketAt mvX10_bracketAt mlX10_313 cl10 o_84 rfl rfl ⟨nle, nle, nle, nle⟩ nle rfl ?_
        refine R_istore_n dX10_look_38 rfl (by decide) rfl rfl ?_
        refine R_iload_n dX10_look_39 rfl rfl ?_
        by_cases h40_0 : v2 = 0
        · replace hf := iposE hf h40_0
          refine R_switchIn dX10_look_40 (by omega) (by omega) (by rw [h40_0]; rfl) rfl ?_
          refine R_aload_n dX10_look_88 rfl rfl ?_
          refine R_getR dX10_look_89 cl10 flX10_35 o_84 ff10_14 (fr10_14 _) a_90.1 ?_
          refine R_bipush dX10_look_92 (v := 14) rfl ?_
          refine R_iload_n dX10_look_94 rfl rfl ?_
          refine R_iadd dX10_look_95 rfl ?_
          obtain ⟨hg1, hf⟩ := gdE hf
          refine R_iaload dX10_look_96 a_90 hg1.1 hg1.2 rfl ?_
          cases hf; exact E_iret dX10_look_97 rfl rfl rfl
        replace hf := inegE hf h40_0
        by_cases h40_1 : v2 = 1
        · replace hf := iposE hf h40_1
          refine R_switchIn dX10_look_40 (by omega) (by omega) (by rw [h40_1]; rfl) rfl ?_
          refine R_iload_n dX10_look_98 rfl rfl ?_
          refine R_iconst dX10_look_99 (v := (-1)) rfl ?_
          refine R_icmp_ne dX10_look_100 rfl (fun h100 => ?_) (fun h100 => ?_)
          · replace hf := inegE hf h100
            refine R_aload_n dX10_look_107 rfl rfl ?_
            refine R_getR dX10_look_108 cl10 flX10_51 o_84 ff10_28 (fr10_28 _) a_94.1 ?_
            refine R_iload_n dX10_look_111 rfl rfl ?_
            obtain ⟨hg2, hf⟩ := gdE hf
            refine R_iaload dX10_look_112 a_94 hg2.1 hg2.2 rfl ?_
            cases hf; exact E_iret dX10_look_113 rfl rfl rfl
          · replace hf := iposE hf h100
            refine R_iconst dX10_look_103 (v := (-1)) rfl ?_
            refine R_goto dX10_look_104 rfl ?_
            cases hf; exact E_iret dX10_look_113 rfl rfl rfl
        replace hf := inegE hf h40_1
        by_cases h40_2 : v2 = 2
        · replace hf := iposE hf h40_2
          refine R_switchIn dX10_look_40 (by omega) (by omega) (by rw [h40_2]; rfl) rfl ?_
          refine R_iload_n dX10_look_114 rfl rfl ?_
          refine R_iconst dX10_look_115 (v := (-1)) rfl ?_
          refine R_icmp_ne dX10_look_116 rfl (fun h116 => ?_) (fun h116 => ?_)
          · replace hf := inegE hf h116
            refine R_aload_n dX10_look_123 rfl rfl ?_
            refine R_getR dX10_look_124 cl10 flX10_54 o_84 ff10_29 (fr10_29 _) a_95.1 ?_
            refine R_iload_n dX10_look_127 rfl rfl ?_
            obtain ⟨hg3, hf⟩ := gdE hf
            refine R_zaload dX10_look_128 a_95 hg3.1 hg3.2 rfl ?_
            refine R_if_eq dX10_look_129 rfl (fun h129 => ?_) (fun h129 => ?_)
            · replace hf := iposE hf h129
              refine R_iconst dX10_look_136 (v := 0) rfl ?_
              cases hf; exact E_iret dX10_look_137 rfl rfl rfl
            · replace hf := inegE hf h129
              refine R_iconst dX10_look_132 (v := 1) rfl ?_
              refine R_goto dX10_look_133 rfl ?_
              cases hf; exact E_iret dX10_look_137 rfl rfl rfl
          · replace hf := iposE hf h116
            refine R_iconst dX10_look_119 (v := (-1)) rfl ?_
            refine R_goto dX10_look_120 rfl ?_
            cases hf; exact E_iret dX10_look_137 rfl rfl rfl
        replace hf := inegE hf h40_2
        by_cases h40_3 : v2 = 3
        · replace hf := iposE hf h40_3
          refine R_switchIn dX10_look_40 (by omega) (by omega) (by rw [h40_3]; rfl) rfl ?_
          refine R_aload_n dX10_look_138 rfl rfl ?_
          refine R_iload_n dX10_look_139 rfl rfl ?_
          obtain ⟨p140, hp140, hf⟩ := bdE hf
          refine R_callV (As := [aI p35]) (st := []) dX10_look_140 (ct_X10_hasPartner _ _  hp140) mwX10_hasPartner mvX10_hasPartner mlX10_316 cl10 o_84 rfl rfl ⟨nle, nle, nle, nle⟩ nle rfl ?_
          refine R_if_eq dX10_look_143 rfl (fun h143 => ?_) (fun h143 => ?_)
          · replace hf := iposE hf h143
            refine R_iconst dX10_look_154 (v := (-1)) rfl ?_
            cases hf; exact E_iret dX10_look_155 rfl rfl rfl
          · replace hf := inegE hf h143
            refine R_aload_n dX10_look_146 rfl rfl ?_
            refine R_iload_n dX10_look_147 rfl rfl ?_
            obtain ⟨p148, hp148, hf⟩ := bdE hf
            refine R_callV (As := [aI p35]) (st := []) dX10_look_148 (ct_X10_end _ _  hp148) mwX10_end mvX10_end mlX10_278 cl10 o_84 rfl rfl ⟨nle, nle, nle, nle⟩ nle rfl ?_
            refine R_goto dX10_look_151 rfl ?_
            cases hf; exact E_iret dX10_look_155 rfl rfl rfl
        replace hf := inegE hf h40_3
        by_cases h40_4 : v2 = 4
        · replace hf := iposE hf h40_4
          refine R_switchIn dX10_look_40 (by omega) (by omega) (by rw [h40_4]; rfl) rfl ?_
          refine R_aload_n dX10_look_156 rfl rfl ?_
          refine R_iload_n dX10_look_157 rfl rfl ?_
          obtain ⟨p158, hp158, hf⟩ := bdE hf
          refine R_callV (As := [aI v1]) (st := []) dX10_look_158 (ct_X10_depthAt _ _  hp158) mwX10_depthAt mvX10_depthAt mlX10_284 cl10 o_84 rfl rfl ⟨nle, nle, nle, nle⟩ nle rfl ?_
          cases hf; exact E_iret dX10_look_161 rfl rfl rfl
        replace hf := inegE hf h40_4
        by_cases h40_5 : v2 = 5
        · replace hf := iposE hf h40_5
          refine R_switchIn dX10_look_40 (by omega) (by omega) (by rw [h40_5]; rfl) rfl ?_
          refine R_aload_n dX10_look_162 rfl rfl ?_
          refine R_iload_n dX10_look_163 rfl rfl ?_
          obtain ⟨p164, hp164, hf⟩ := bdE hf
          refine R_callV (As := [aI p35]) (st := []) dX10_look_164 (ct_X10_hasPartner _ _  hp164) mwX10_hasPartner mvX10_hasPartner mlX10_316 cl10 o_84 rfl rfl ⟨nle, nle, nle, nle⟩ nle rfl ?_
          refine R_if_eq dX10_look_167 rfl (fun h167 => ?_) (fun h167 => ?_)
          · replace hf := iposE hf h167
            refine R_iconst dX10_look_186 (v := (-1)) rfl ?_
            cases hf; exact E_iret dX10_look_187 rfl rfl rfl
          · replace hf := inegE hf h167
            refine R_aload_n dX10_look_170 rfl rfl ?_
            refine R_iload_n dX10_look_171 rfl rfl ?_
            obtain ⟨p172, hp172, hf⟩ := bdE hf
            refine R_callV (As := [aI v1]) (st := []) dX10_look_172 (ct_X10_depthAt _ _  hp172) mwX10_depthAt mvX10_depthAt mlX10_284 cl10 o_84 rfl rfl ⟨nle, nle, nle, nle⟩ nle rfl ?_
            refine R_aload_n dX10_look_175 rfl rfl ?_
            refine R_getR dX10_look_176 cl10 flX10_35 o_84 ff10_14 (fr10_14 _) a_90.1 ?_
            refine R_bipush dX10_look_179 (v := 10) rfl ?_
            refine R_iaload dX10_look_181 a_90 (by decide) (by decide) rfl ?_
            obtain ⟨hz, hf⟩ := gnE hf
            refine R_irem dX10_look_182 hz rfl ?_
            refine R_goto dX10_look_183 rfl ?_
            cases hf; exact E_iret dX10_look_187 rfl rfl rfl
        replace hf := inegE hf h40_5
        by_cases h40_6 : v2 = 6
        · replace hf := iposE hf h40_6
          refine R_switchIn dX10_look_40 (by omega) (by omega) (by rw [h40_6]; rfl) rfl ?_
          refine R_aload_n dX10_look_188 rfl rfl ?_
          refine R_getR dX10_look_189 cl10 flX10_45 o_84 ff10_25 (fr10_25 _) a_92.1 ?_
          refine R_iload_n dX10_look_192 rfl rfl ?_
          obtain ⟨hg4, hf⟩ := gdE hf
          refine R_iaload dX10_look_193 a_92 hg4.1 hg4.2 rfl ?_
          cases hf; exact E_iret dX10_look_194 rfl rfl rfl
        replace hf := inegE hf h40_6
        by_cases h40_7 : v2 = 7
        · replace hf := iposE hf h40_7
          refine R_switchIn dX10_look_40 (by omega) (by omega) (by rw [h40_7]; rfl) rfl ?_
          refine R_aload_n dX10_look_195 rfl rfl ?_
          refine R_iload_n dX10_look_196 rfl rfl ?_
          obtain ⟨p197, hp197, hf⟩ := bdE hf
          refine R_callV (As := [aI v1]) (st := []) dX10_look_197 (ct_X10_lineOf _ _  hp197) mwX10_lineOf mvX10_lineOf mlX10_304 cl10 o_84 rfl rfl ⟨nle, nle, nle, nle⟩ nle rfl ?_
          cases hf; exact E_iret dX10_look_200 rfl rfl rfl
        replace hf := inegE hf h40_7
        refine R_switchOut dX10_look_40 (by omega) rfl ?_
        refine R_aload_n dX10_look_201 rfl rfl ?_
        refine R_iload_n dX10_look_202 rfl rfl ?_
        obtain ⟨p203, hp203, hf⟩ := bdE hf
        refine R_callV (As := [aI v1]) (st := []) dX10_look_203 (ct_X10_columnOf _ _  hp203) mwX10_columnOf mvX10_columnOf mlX10_319 cl10 o_84 rfl rfl ⟨nle, nle, nle, nle⟩ nle rfl ?_
        cases hf; exact E_iret dX10_look_206 rfl rfl rfl
      · replace hf := inegE hf h28
        refine R_iconst dX10_look_31 (v := 0) rfl ?_
        cases hf; exact E_iret dX10_look_32 rfl rfl rfl
    · replace hf := iposE hf h16
      refine R_iconst dX10_look_19 (v := 1) rfl ?_
      refine R_goto dX10_look_20 rfl ?_
      refine R_iconst dX10_look_24 (v := 2) rfl ?_
      obtain ⟨p25, hp25, hf⟩ := bdE hf
      refine R_callV (As := [aI 1, aI 2]) (st := []) dX10_look_25 (ct_X10_throwsIf _ _ _  hp25) mwX10_throwsIf mvX10_throwsIf mlX10_227 cl10 o_84 rfl rfl ⟨nle, nle, nle, nle⟩ nle rfl ?_
      refine R_if_eq dX10_look_28 rfl (fun h28 => ?_) (fun h28 => ?_)
      · replace hf := iposE hf h28
        refine R_aload_n dX10_look_33 rfl rfl ?_
        refine R_iload_n dX10_look_34 rfl rfl ?_
        obtain ⟨p35, hp35, hf⟩ := bdE hf
        refine R_callV (As := [aI v1]) (st := []) dX10_look_35 (ct_X10_bracketAt _ _  hp35) mwX10_bracketAt mvX10_bracketAt mlX10_313 cl10 o_84 rfl rfl ⟨nle, nle, nle, nle⟩ nle rfl ?_
        refine R_istore_n dX10_look_38 rfl (by decide) rfl rfl ?_
        refine R_iload_n dX10_look_39 rfl rfl ?_
        by_cases h40_0 : v2 = 0
        · replace hf := iposE hf h40_0
          refine R_switchIn dX10_look_40 (by omega) (by omega) (by rw [h40_0]; rfl) rfl ?_
          refine R_aload_n dX10_look_88 rfl rfl ?_
          refine R_getR dX10_look_89 cl10 flX10_35 o_84 ff10_14 (fr10_14 _) a_90.1 ?_
          refine R_bipush dX10_look_92 (v := 14) rfl ?_
          refine R_iload_n dX10_look_94 rfl rfl ?_
          refine R_iadd dX10_look_95 rfl ?_
          obtain ⟨hg5, hf⟩ := gdE hf
          refine R_iaload dX10_look_96 a_90 hg5.1 hg5.2 rfl ?_
          cases hf; exact E_iret dX10_look_97 rfl rfl rfl
        replace hf := inegE hf h40_0
        by_cases h40_1 : v2 = 1
        · replace hf := iposE hf h40_1
          refine R_switchIn dX10_look_40 (by omega) (by omega) (by rw [h40_1]; rfl) rfl ?_
          refine R_iload_n dX10_look_98 rfl rfl ?_
          refine R_iconst dX10_look_99 (v := (-1)) rfl ?_
          refine R_icmp_ne dX10_look_100 rfl (fun h100 => ?_) (fun h100 => ?_)
          · replace hf := inegE hf h100
            refine R_aload_n dX10_look_107 rfl rfl ?_
            refine R_getR dX10_look_108 cl10 flX10_51 o_84 ff10_28 (fr10_28 _) a_94.1 ?_
            refine R_iload_n dX10_look_111 rfl rfl ?_
            obtain ⟨hg6, hf⟩ := gdE hf
            refine R_iaload dX10_look_112 a_94 hg6.1 hg6.2 rfl ?_
            cases hf; exact E_iret dX10_look_113 rfl rfl rfl
          · replace hf := iposE hf h100
            refine R_iconst dX10_look_103 (v := (-1)) rfl ?_
            refine R_goto dX10_look_104 rfl ?_
            cases hf; exact E_iret dX10_look_113 rfl rfl rfl
        replace hf := inegE hf h40_1
        by_cases h40_2 : v2 = 2
        · replace hf := iposE hf h40_2
          refine R_switchIn dX10_look_40 (by omega) (by omega) (by rw [h40_2]; rfl) rfl ?_
          refine R_iload_n dX10_look_114 rfl rfl ?_
          refine R_iconst dX10_look_115 (v := (-1)) rfl ?_
          refine R_icmp_ne dX10_look_116 rfl (fun h116 => ?_) (fun h116 => ?_)
          · replace hf := inegE hf h116
            refine R_aload_n dX10_look_123 rfl rfl ?_
            refine R_getR dX10_look_124 cl10 flX10_54 o_84 ff10_29 (fr10_29 _) a_95.1 ?_
            refine R_iload_n dX10_look_127 rfl rfl ?_
            obtain ⟨hg7, hf⟩ := gdE hf
            refine R_zaload dX10_look_128 a_95 hg7.1 hg7.2 rfl ?_
            refine R_if_eq dX10_look_129 rfl (fun h129 => ?_) (fun h129 => ?_)
            · replace hf := iposE hf h129
              refine R_iconst dX10_look_136 (v := 0) rfl ?_
              cases hf; exact E_iret dX10_look_137 rfl rfl rfl
            · replace hf := inegE hf h129
              refine R_iconst dX10_look_132 (v := 1) rfl ?_
              refine R_goto dX10_look_133 rfl ?_
              cases hf; exact E_iret dX10_look_137 rfl rfl rfl
          · replace hf := iposE hf h116
            refine R_iconst dX10_look_119 (v := (-1)) rfl ?_
            refine R_goto dX10_look_120 rfl ?_
            cases hf; exact E_iret dX10_look_137 rfl rfl rfl
        replace hf := inegE hf h40_2
        by_cases h40_3 : v2 = 3
        · replace hf := iposE hf h40_3
          refine R_switchIn dX10_look_40 (by omega) (by omega) (by rw [h40_3]; rfl) rfl ?_
          refine R_aload_n dX10_look_138 rfl rfl ?_
          refine R_iload_n dX10_look_139 rfl rfl ?_
          obtain ⟨p140, hp140, hf⟩ := bdE hf
          refine R_callV (As := [aI p35]) (st := []) dX10_look_140 (ct_X10_hasPartner _ _  hp140) mwX10_hasPartner mvX10_hasPartner mlX10_316 cl10 o_84 rfl rfl ⟨nle, nle, nle, nle⟩ nle rfl ?_
          refine R_if_eq dX10_look_143 rfl (fun h143 => ?_) (fun h143 => ?_)
          · replace hf := iposE hf h143
            refine R_iconst dX10_look_154 (v := (-1)) rfl ?_
            cases hf; exact E_iret dX10_look_155 rfl rfl rfl
          · replace hf := inegE hf h143
            refine R_aload_n dX10_look_146 rfl rfl ?_
            refine R_iload_n dX10_look_147 rfl rfl ?_
            obtain ⟨p148, hp148, hf⟩ := bdE hf
            refine R_callV (As := [aI p35]) (st := []) dX10_look_148 (ct_X10_end _ _  hp148) mwX10_end mvX10_end mlX10_278 cl10 o_84 rfl rfl ⟨nle, nle, nle, nle⟩ nle rfl ?_
            refine R_goto dX10_look_151 rfl ?_
            cases hf; exact E_iret dX10_look_155 rfl rfl rfl
        replace hf := inegE hf h40_3
        by_cases h40_4 : v2 = 4
        · replace hf := iposE hf h40_4
          refine R_switchIn dX10_look_40 (by omega) (by omega) (by rw [h40_4]; rfl) rfl ?_
          refine R_aload_n dX10_look_156 rfl rfl ?_
          refine R_iload_n dX10_look_157 rfl rfl ?_
          obtain ⟨p158, hp158, hf⟩ := bdE hf
          refine R_callV (As := [aI v1]) (st := []) dX10_look_158 (ct_X10_depthAt _ _  hp158) mwX10_depthAt mvX10_depthAt mlX10_284 cl10 o_84 rfl rfl ⟨nle, nle, nle, nle⟩ nle rfl ?_
          cases hf; exact E_iret dX10_look_161 rfl rfl rfl
        replace hf := inegE hf h40_4
        by_cases h40_5 : v2 = 5
        · replace hf := iposE hf h40_5
          refine R_switchIn dX10_look_40 (by omega) (by omega) (by rw [h40_5]; rfl) rfl ?_
          refine R_aload_n dX10_look_162 rfl rfl ?_
          refine R_iload_n dX10_look_163 rfl rfl ?_
          obtain ⟨p164, hp164, hf⟩ := bdE hf
          refine R_callV (As := [aI p35]) (st := []) dX10_look_164 (ct_X10_hasPartner _ _  hp164) mwX10_hasPartner mvX10_hasPartner mlX10_316 cl10 o_84 rfl rfl ⟨nle, nle, nle, nle⟩ nle rfl ?_
          refine R_if_eq dX10_look_167 rfl (fun h167 => ?_) (fun h167 => ?_)
          · replace hf := iposE hf h167
            refine R_iconst dX10_look_186 (v := (-1)) rfl ?_
            cases hf; exact E_iret dX10_look_187 rfl rfl rfl
          · replace hf := inegE hf h167
            refine R_aload_n dX10_look_170 rfl rfl ?_
            refine R_iload_n dX10_look_171 rfl rfl ?_
            obtain ⟨p172, hp172, hf⟩ := bdE hf
            refine R_callV (As := [aI v1]) (st := []) dX10_look_172 (ct_X10_depthAt _ _  hp172) mwX10_depthAt mvX10_depthAt mlX10_284 cl10 o_84 rfl rfl ⟨nle, nle, nle, nle⟩ nle rfl ?_
            refine R_aload_n dX10_look_175 rfl rfl ?_
            refine R_getR dX10_look_176 cl10 flX10_35 o_84 ff10_14 (fr10_14 _) a_90.1 ?_
            refine R_bipush dX10_look_179 (v := 10) rfl ?_
            refine R_iaload dX10_look_181 a_90 (by decide) (by decide) rfl ?_
            obtain ⟨hz, hf⟩ := gnE hf
            refine R_irem dX10_look_182 hz rfl ?_
            refine R_goto dX10_look_183 rfl ?_
            cases hf; exact E_iret dX10_look_187 rfl rfl rfl
        replace hf := inegE hf h40_5
        by_cases h40_6 : v2 = 6
        · replace hf := iposE hf h40_6
          refine R_switchIn dX10_look_40 (by omega) (by omega) (by rw [h40_6]; rfl) rfl ?_
          refine R_aload_n dX10_look_188 rfl rfl ?_
          refine R_getR dX10_look_189 cl10 flX10_45 o_84 ff10_25 (fr10_25 _) a_92.1 ?_
          refine R_iload_n dX10_look_192 rfl rfl ?_
          obtain ⟨hg8, hf⟩ := gdE hf
          refine R_iaload dX10_look_193 a_92 hg8.1 hg8.2 rfl ?_
          cases hf; exact E_iret dX10_look_194 rfl rfl rfl
        replace hf := inegE hf h40_6
        by_cases h40_7 : v2 = 7
        · replace hf := iposE hf h40_7
          refine R_switchIn dX10_look_40 (by omega) (by omega) (by rw [h40_7]; rfl) rfl ?_
          refine R_aload_n dX10_look_195 rfl rfl ?_
          refine R_iload_n dX10_look_196 rfl rfl ?_
          obtain ⟨p197, hp197, hf⟩ := bdE hf
          refine R_callV (As := [aI v1]) (st := []) dX10_look_197 (ct_X10_lineOf _ _  hp197) mwX10_lineOf mvX10_lineOf mlX10_304 cl10 o_84 rfl rfl ⟨nle, nle, nle, nle⟩ nle rfl ?_
          cases hf; exact E_iret dX10_look_200 rfl rfl rfl
        replace hf := inegE hf h40_7
        refine R_switchOut dX10_look_40 (by omega) rfl ?_
        refine R_aload_n dX10_look_201 rfl rfl ?_
        refine R_iload_n dX10_look_202 rfl rfl ?_
        obtain ⟨p203, hp203, hf⟩ := bdE hf
        refine R_callV (As := [aI v1]) (st := []) dX10_look_203 (ct_X10_columnOf _ _  hp203) mwX10_columnOf mvX10_columnOf mlX10_319 cl10 o_84 rfl rfl ⟨nle, nle, nle, nle⟩ nle rfl ?_
        cases hf; exact E_iret dX10_look_206 rfl rfl rfl
      · replace hf := inegE hf h28
        refine R_iconst dX10_look_31 (v := 0) rfl ?_
        cases hf; exact E_iret dX10_look_32 rfl rfl rfl
/-! BracketHallModel.around(II)I -/
def f_X10_around_L20 : Nat → Int → Int → Int → Mem → Option (Int × Mem)
  | 0, _, _, _, _ => none
  | n + 1, v1, v3, v4, M =>
    if v4 < 0 then
      some ((-1), M)
    else
      (f_X10_isAround v4 v1 M).bind fun p29 =>
      if p29 = 0 then
        lt1 (w32 (v4 + (-1))) fun v4_53 =>
        f_X10_around_L20 n v1 v3 v4_53 M
      else
        if v3 = 0 then
          if (0 : Int) ≤ v4 ∧ v4 < 240 then
          some (M 93 v4, M)
          else none
        else
          lt1 (w32 (v3 + (-1))) fun v3_50 =>
          lt1 (w32 (v4 + (-1))) fun v4_53 =>
          f_X10_around_L20 n v1 v3_50 v4_53 M
def f_X10_around (v1 : Int) (v2 : Int) (M : Mem) : Option (Int × Mem) :=
  (f_X10_noPlace v1 M).bind fun p2 =>
  if p2.1 = 0 then
    lt1 (w32 ((p2.2 84 26) - 1)) fun v4_18 =>
    f_X10_around_L20 4096 v1 v2 v4_18 p2.2
  else
    some (0, p2.2)
set_option maxRecDepth 20000 in
theorem rn_X10_around_L20 {G : Gl} : ∀ (n : Nat) (v1 : Int) (v3 : Int) (v4 : Int) (M : Mem) (res : Int × Mem),  f_X10_around_L20 n v1 v3 v4 M = some res → Run G false (rmD 5 0 0) miX10_around (ZP G (some (aI res.1)) res.2) 0 0 20 [some (aR 84), some (aI v1), none, some (aI v3), some (aI v4)] [] M := by
  intro n
  induction n with
  | zero => intro v1 v3 v4 M res  hf; cases hf
  | succ n ih =>
    intro v1 v3 v4 M res  hf
    rw [f_X10_around_L20] at hf
    refine R_iload dX10_around_20 rfl ?_
    refine R_if_lt dX10_around_22 rfl (fun h22 => ?_) (fun h22 => ?_)
    · replace hf := iposE hf h22
      refine R_iconst dX10_around_59 (v := (-1)) rfl ?_
      cases hf; exact E_iret dX10_around_60 rfl rfl rfl
    · replace hf := inegE hf h22
      refine R_aload_n dX10_around_25 rfl rfl ?_
      refine R_iload dX10_around_26 rfl ?_
      refine R_iload_n dX10_around_28 rfl rfl ?_
      obtain ⟨p29, hp29, hf⟩ := bdE hf
      refine R_callV (As := [aI v4, aI v1]) (st := []) dX10_around_29 (ct_X10_isAround _ _ _  hp29) mwX10_isAround mvX10_isAround mlX10_281 cl10 o_84 rfl rfl ⟨nle, nle, nle, nle⟩ nle rfl ?_
      refine R_if_ne dX10_around_32 rfl (fun h32 => ?_) (fun h32 => ?_)
      · replace hf := inegE hf h32
        refine R_iload_n dX10_around_38 rfl rfl ?_
        refine R_if_ne dX10_around_39 rfl (fun h39 => ?_) (fun h39 => ?_)
        · replace hf := inegE hf h39
          obtain ⟨v3_50, hv3_50, hf⟩ := ltE hf
          refine R_iinc dX10_around_50 rfl rfl hv3_50 (by decide) rfl ?_
          obtain ⟨v4_53, hv4_53, hf⟩ := ltE hf
          refine R_iinc dX10_around_53 rfl rfl hv4_53 (by decide) rfl ?_
          refine R_goto dX10_around_56 rfl ?_
          exact R_subk (ih _ _ _ _ _  hf) ⟨rfl, rfl, rfl, rfl, trivial⟩
        · replace hf := iposE hf h39
          refine R_aload_n dX10_around_42 rfl rfl ?_
          refine R_getR dX10_around_43 cl10 flX10_48 o_84 ff10_27 (fr10_27 _) a_93.1 ?_
          refine R_iload dX10_around_46 rfl ?_
          obtain ⟨hg1, hf⟩ := gdE hf
          refine R_iaload dX10_around_48 a_93 hg1.1 hg1.2 rfl ?_
          cases hf; exact E_iret dX10_around_49 rfl rfl rfl
      · replace hf := iposE hf h32
        refine R_goto dX10_around_35 rfl ?_
        obtain ⟨v4_53, hv4_53, hf⟩ := ltE hf
        refine R_iinc dX10_around_53 rfl rfl hv4_53 (by decide) rfl ?_
        refine R_goto dX10_around_56 rfl ?_
        exact R_subk (ih _ _ _ _ _  hf) ⟨rfl, rfl, rfl, rfl, trivial⟩
set_option maxRecDepth 20000 in
theorem ct_X10_around {G : Gl} (v1 : Int) (v2 : Int) (M : Mem) {res : Int × Mem}  (hf : f_X10_around v1 v2 M = some res) : Ct G miX10_around yX10_around 5 [aR 84, aI v1, aI v2] M (some (aI res.1)) res.2 := by
  refine Ct.of (L := [some (aR 84), some (aI v1), some (aI v2), none, none]) mwX10_around rfl trivial nle ⟨rfl, rfl, rfl, trivial⟩ ?_
  unfold f_X10_around at hf
  refine R_aload_n dX10_around_0 rfl rfl ?_
  refine R_iload_n dX10_around_1 rfl rfl ?_
  obtain ⟨p2, hp2, hf⟩ := bdE hf
  refine R_callV (As := [aI v1]) (st := []) dX10_around_2 (ct_X10_noPlace _ _  hp2) mwX10_noPlace mvX10_noPlace mlX10_310 cl10 o_84 rfl rfl ⟨nle, nle, nle, nle⟩ nle rfl ?_
  refine R_if_eq dX10_around_5 rfl (fun h5 => ?_) (fun h5 => ?_)
  · replace hf := iposE hf h5
    refine R_iload_n dX10_around_10 rfl rfl ?_
    refine R_istore_n dX10_around_11 rfl (by decide) rfl rfl ?_
    refine R_aload_n dX10_around_12 rfl rfl ?_
    refine R_getI (ki := 26) dX10_around_13 cl10 flX10_264 o_84 ff10_26 rfl rfl ?_
    refine R_iconst dX10_around_16 (v := 1) rfl ?_
    refine R_isub dX10_around_17 rfl ?_
    obtain ⟨v4_18, hv4_18, hf⟩ := ltE hf
    refine R_istore dX10_around_18 (by decide) hv4_18 rfl ?_
    exact R_subk (rn_X10_around_L20 4096 _ _ _ _ _  hf) ⟨rfl, rfl, rfl, rfl, trivial⟩
  · replace hf := inegE hf h5
    refine R_iconst dX10_around_8 (v := 0) rfl ?_
    cases hf; exact E_iret dX10_around_9 rfl rfl rfl
/-! BracketHallModel.noPair(I)Z -/
def f_X10_noPair (v1 : Int) (M : Mem) : Option (Int × Mem) :=
  (f_X10_noPlace v1 M).bind fun p2 =>
  if p2.1 = 0 then
    (f_X10_bracketAt v1 p2.2).bind fun p12 =>
    (f_X10_hasPartner p12 p2.2).bind fun p15 =>
    if p15 = 0 then
      (f_X10_throwsIf 1 2 p2.2).bind fun p27 =>
      if p27.1 = 0 then
        some (0, p27.2)
      else
        some (1, p27.2)
    else
      (f_X10_throwsIf 0 2 p2.2).bind fun p27 =>
      if p27.1 = 0 then
        some (0, p27.2)
      else
        some (1, p27.2)
  else
    some (1, p2.2)
set_option maxRecDepth 20000 in
theorem ct_X10_noPair {G : Gl} (v1 : Int) (M : Mem) {res : Int × Mem}  (hf : f_X10_noPair v1 M = some res) : Ct G miX10_noPair yX10_noPair 5 [aR 84, aI v1] M (some (aI res.1)) res.2 := by
  refine Ct.of (L := [some (aR 84), some (aI v1)]) mwX10_noPair rfl trivial nle ⟨rfl, rfl, trivial⟩ ?_
  unfold f_X10_noPair at hf
  refine R_aload_n dX10_noPair_0 rfl rfl ?_
  refine R_iload_n dX10_noPair_1 rfl rfl ?_
  obtain ⟨p2, hp2, hf⟩ := bdE hf
  refine R_callV (As := [aI v1]) (st := []) dX10_noPair_2 (ct_X10_noPlace _ _  hp2) mwX10_noPlace mvX10_noPlace mlX10_310 cl10 o_84 rfl rfl ⟨nle, nle, nle, nle⟩ nle rfl ?_
  refine R_if_ne dX10_noPair_5 rfl (fun h5 => ?_) (fun h5 => ?_)
  · replace hf := inegE hf h5
    refine R_iconst dX10_noPair_33 (v := 1) rfl ?_
    refine R_goto dX10_noPair_34 rfl ?_
    cases hf; exact E_zret dX10_noPair_38 rfl (by decide) rfl rfl
  · replace hf := iposE hf h5
    refine R_aload_n dX10_noPair_8 rfl rfl ?_
    refine R_aload_n dX10_noPair_9 rfl rfl ?_
    refine R_aload_n dX10_noPair_10 rfl rfl ?_
    refine R_iload_n dX10_noPair_11 rfl rfl ?_
    obtain ⟨p12, hp12, hf⟩ := bdE hf
    refine R_callV (As := [aI v1]) (st := [aR 84, aR 84]) dX10_noPair_12 (ct_X10_bracketAt _ _  hp12) mwX10_bracketAt mvX10_bracketAt mlX10_313 cl10 o_84 rfl rfl ⟨nle, nle, nle, nle⟩ nle rfl ?_
    obtain ⟨p15, hp15, hf⟩ := bdE hf
    refine R_callV (As := [aI p12]) (st := [aR 84]) dX10_noPair_15 (ct_X10_hasPartner _ _  hp15) mwX10_hasPartner mvX10_hasPartner mlX10_316 cl10 o_84 rfl rfl ⟨nle, nle, nle, nle⟩ nle rfl ?_
    refine R_if_ne dX10_noPair_18 rfl (fun h18 => ?_) (fun h18 => ?_)
    · replace hf := inegE hf h18
      refine R_iconst dX10_noPair_25 (v := 0) rfl ?_
      refine R_iconst dX10_noPair_26 (v := 2) rfl ?_
      obtain ⟨p27, hp27, hf⟩ := bdE hf
      refine R_callV (As := [aI 0, aI 2]) (st := []) dX10_noPair_27 (ct_X10_throwsIf _ _ _  hp27) mwX10_throwsIf mvX10_throwsIf mlX10_227 cl10 o_84 rfl rfl ⟨nle, nle, nle, nle⟩ nle rfl ?_
      refine R_if_eq dX10_noPair_30 rfl (fun h30 => ?_) (fun h30 => ?_)
      · replace hf := iposE hf h30
        refine R_iconst dX10_noPair_37 (v := 0) rfl ?_
        cases hf; exact E_zret dX10_noPair_38 rfl (by decide) rfl rfl
      · replace hf := inegE hf h30
        refine R_iconst dX10_noPair_33 (v := 1) rfl ?_
        refine R_goto dX10_noPair_34 rfl ?_
        cases hf; exact E_zret dX10_noPair_38 rfl (by decide) rfl rfl
    · replace hf := iposE hf h18
      refine R_iconst dX10_noPair_21 (v := 1) rfl ?_
      refine R_goto dX10_noPair_22 rfl ?_
      refine R_iconst dX10_noPair_26 (v := 2) rfl ?_
      obtain ⟨p27, hp27, hf⟩ := bdE hf
      refine R_callV (As := [aI 1, aI 2]) (st := []) dX10_noPair_27 (ct_X10_throwsIf _ _ _  hp27) mwX10_throwsIf mvX10_throwsIf mlX10_227 cl10 o_84 rfl rfl ⟨nle, nle, nle, nle⟩ nle rfl ?_
      refine R_if_eq dX10_noPair_30 rfl (fun h30 => ?_) (fun h30 => ?_)
      · replace hf := iposE hf h30
        refine R_iconst dX10_noPair_37 (v := 0) rfl ?_
        cases hf; exact E_zret dX10_noPair_38 rfl (by decide) rfl rfl
      · replace hf := inegE hf h30
        refine R_iconst dX10_noPair_33 (v := 1) rfl ?_
        refine R_goto dX10_noPair_34 rfl ?_
        cases hf; exact E_zret dX10_noPair_38 rfl (by decide) rfl rfl
/-! BracketHallModel.pairAt(I)I -/
def f_X10_pairAt (v1 : Int) (M : Mem) : Option (Int) :=
  (f_X10_bracketAt v1 M).bind fun p2 =>
  if (0 : Int) ≤ p2 ∧ p2 < 240 then
  if (M 95 p2) = 0 then
    some (M 96 p2)
  else
    some p2
  else none
set_option maxRecDepth 20000 in
theorem ct_X10_pairAt {G : Gl} (v1 : Int) (M : Mem) {res : Int}  (hf : f_X10_pairAt v1 M = some res) : Ct G miX10_pairAt yX10_pairAt 1 [aR 84, aI v1] M (some (aI res)) M := by
  refine Ct.of (L := [some (aR 84), some (aI v1), none]) mwX10_pairAt rfl trivial nle ⟨rfl, rfl, trivial⟩ ?_
  unfold f_X10_pairAt at hf
  refine R_aload_n dX10_pairAt_0 rfl rfl ?_
  refine R_iload_n dX10_pairAt_1 rfl rfl ?_
  obtain ⟨p2, hp2, hf⟩ := bdE hf
  refine R_callV (As := [aI v1]) (st := []) dX10_pairAt_2 (ct_X10_bracketAt _ _  hp2) mwX10_bracketAt mvX10_bracketAt mlX10_313 cl10 o_84 rfl rfl ⟨nle, nle, nle, nle⟩ nle rfl ?_
  refine R_istore_n dX10_pairAt_5 rfl (by decide) rfl rfl ?_
  refine R_aload_n dX10_pairAt_6 rfl rfl ?_
  refine R_getR dX10_pairAt_7 cl10 flX10_54 o_84 ff10_29 (fr10_29 _) a_95.1 ?_
  refine R_iload_n dX10_pairAt_10 rfl rfl ?_
  obtain ⟨hg1, hf⟩ := gdE hf
  refine R_zaload dX10_pairAt_11 a_95 hg1.1 hg1.2 rfl ?_
  refine R_if_eq dX10_pairAt_12 rfl (fun h12 => ?_) (fun h12 => ?_)
  · replace hf := iposE hf h12
    refine R_aload_n dX10_pairAt_19 rfl rfl ?_
    refine R_getR dX10_pairAt_20 cl10 flX10_58 o_84 ff10_30 (fr10_30 _) a_96.1 ?_
    refine R_iload_n dX10_pairAt_23 rfl rfl ?_
    refine R_iaload dX10_pairAt_24 a_96 hg1.1 hg1.2 rfl ?_
    cases hf; exact E_iret dX10_pairAt_25 rfl rfl rfl
  · replace hf := inegE hf h12
    refine R_iload_n dX10_pairAt_15 rfl rfl ?_
    refine R_goto dX10_pairAt_16 rfl ?_
    cases hf; exact E_iret dX10_pairAt_25 rfl rfl rfl
/-! BracketHallModel.within(II)I -/
def f_X10_within_L22 : Nat → Int → Int → Int → Mem → Option (Int × Mem)
  | 0, _, _, _, _ => none
  | n + 1, v3, v4, v5, M =>
    if (M 84 26) ≤ v5 then
      some ((-1), M)
    else
      (f_X10_isPair v5 M).bind fun p34 =>
      if p34 = 0 then
        lt1 (w32 (v5 + 1)) fun v5_74 =>
        f_X10_within_L22 n v3 v4 v5_74 M
      else
        if (0 : Int) ≤ v5 ∧ v5 < 240 then
        (f_X10_outer (M 93 v5) M).bind fun p48 =>
        if p48 = v3 then
          if v4 = 0 then
            some (M 93 v5, M)
          else
            lt1 (w32 (v4 + (-1))) fun v4_71 =>
            lt1 (w32 (v5 + 1)) fun v5_74 =>
            f_X10_within_L22 n v3 v4_71 v5_74 M
        else
          lt1 (w32 (v5 + 1)) fun v5_74 =>
          f_X10_within_L22 n v3 v4 v5_74 M
        else none
def f_X10_within (v1 : Int) (v2 : Int) (M : Mem) : Option (Int × Mem) :=
  (f_X10_noPair v1 M).bind fun p2 =>
  if p2.1 = 0 then
    (f_X10_pairAt v1 p2.2).bind fun p12 =>
    f_X10_within_L22 4096 p12 v2 0 p2.2
  else
    some (0, p2.2)
set_option maxRecDepth 20000 in
theorem rn_X10_within_L22 {G : Gl} : ∀ (n : Nat) (v3 : Int) (v4 : Int) (v5 : Int) (M : Mem) (res : Int × Mem),  f_X10_within_L22 n v3 v4 v5 M = some res → Run G false (rmD 6 0 0) miX10_within (ZP G (some (aI res.1)) res.2) 0 0 22 [some (aR 84), none, none, some (aI v3), some (aI v4), some (aI v5)] [] M := by
  intro n
  induction n with
  | zero => intro v3 v4 v5 M res  hf; cases hf
  | succ n ih =>
    intro v3 v4 v5 M res  hf
    rw [f_X10_within_L22] at hf
    refine R_iload dX10_within_22 rfl ?_
    refine R_aload_n dX10_within_24 rfl rfl ?_
    refine R_getI (ki := 26) dX10_within_25 cl10 flX10_264 o_84 ff10_26 rfl rfl ?_
    refine R_icmp_ge dX10_within_28 rfl (fun h28 => ?_) (fun h28 => ?_)
    · replace hf := iposE hf h28
      refine R_iconst dX10_within_80 (v := (-1)) rfl ?_
      cases hf; exact E_iret dX10_within_81 rfl rfl rfl
    · replace hf := inegE hf h28
      refine R_aload_n dX10_within_31 rfl rfl ?_
      refine R_iload dX10_within_32 rfl ?_
      obtain ⟨p34, hp34, hf⟩ := bdE hf
      refine R_callV (As := [aI v5]) (st := []) dX10_within_34 (ct_X10_isPair _ _  hp34) mwX10_isPair mvX10_isPair mlX10_275 cl10 o_84 rfl rfl ⟨nle, nle, nle, nle⟩ nle rfl ?_
      refine R_if_eq dX10_within_37 rfl (fun h37 => ?_) (fun h37 => ?_)
      · replace hf := iposE hf h37
        obtain ⟨v5_74, hv5_74, hf⟩ := ltE hf
        refine R_iinc dX10_within_74 rfl rfl hv5_74 (by decide) rfl ?_
        refine R_goto dX10_within_77 rfl ?_
        exact R_subk (ih _ _ _ _ _  hf) ⟨rfl, rfl, rfl, rfl, trivial⟩
      · replace hf := inegE hf h37
        refine R_aload_n dX10_within_40 rfl rfl ?_
        refine R_aload_n dX10_within_41 rfl rfl ?_
        refine R_getR dX10_within_42 cl10 flX10_48 o_84 ff10_27 (fr10_27 _) a_93.1 ?_
        refine R_iload dX10_within_45 rfl ?_
        obtain ⟨hg1, hf⟩ := gdE hf
        refine R_iaload dX10_within_47 a_93 hg1.1 hg1.2 rfl ?_
        obtain ⟨p48, hp48, hf⟩ := bdE hf
        refine R_callV (As := [aI (M 93 v5)]) (st := []) dX10_within_48 (ct_X10_outer _ _  hp48) mwX10_outer mvX10_outer mlX10_328 cl10 o_84 rfl rfl ⟨nle, nle, nle, nle⟩ nle rfl ?_
        refine R_iload_n dX10_within_51 rfl rfl ?_
        refine R_icmp_eq dX10_within_52 rfl (fun h52 => ?_) (fun h52 => ?_)
        · replace hf := iposE hf h52
          refine R_iload dX10_within_58 rfl ?_
          refine R_if_ne dX10_within_60 rfl (fun h60 => ?_) (fun h60 => ?_)
          · replace hf := inegE hf h60
            obtain ⟨v4_71, hv4_71, hf⟩ := ltE hf
            refine R_iinc dX10_within_71 rfl rfl hv4_71 (by decide) rfl ?_
            obtain ⟨v5_74, hv5_74, hf⟩ := ltE hf
            refine R_iinc dX10_within_74 rfl rfl hv5_74 (by decide) rfl ?_
            refine R_goto dX10_within_77 rfl ?_
            exact R_subk (ih _ _ _ _ _  hf) ⟨rfl, rfl, rfl, rfl, trivial⟩
          · replace hf := iposE hf h60
            refine R_aload_n dX10_within_63 rfl rfl ?_
            refine R_getR dX10_within_64 cl10 flX10_48 o_84 ff10_27 (fr10_27 _) a_93.1 ?_
            refine R_iload dX10_within_67 rfl ?_
            refine R_iaload dX10_within_69 a_93 hg1.1 hg1.2 rfl ?_
            cases hf; exact E_iret dX10_within_70 rfl rfl rfl
        · replace hf := inegE hf h52
          refine R_goto dX10_within_55 rfl ?_
          obtain ⟨v5_74, hv5_74, hf⟩ := ltE hf
          refine R_iinc dX10_within_74 rfl rfl hv5_74 (by decide) rfl ?_
          refine R_goto dX10_within_77 rfl ?_
          exact R_subk (ih _ _ _ _ _  hf) ⟨rfl, rfl, rfl, rfl, trivial⟩
set_option maxRecDepth 20000 in
theorem ct_X10_within {G : Gl} (v1 : Int) (v2 : Int) (M : Mem) {res : Int × Mem}  (hf : f_X10_within v1 v2 M = some res) : Ct G miX10_within yX10_within 6 [aR 84, aI v1, aI v2] M (some (aI res.1)) res.2 := by
  refine Ct.of (L := [some (aR 84), some (aI v1), some (aI v2), none, none, none]) mwX10_within rfl trivial nle ⟨rfl, rfl, rfl, trivial⟩ ?_
  unfold f_X10_within at hf
  refine R_aload_n dX10_within_0 rfl rfl ?_
  refine R_iload_n dX10_within_1 rfl rfl ?_
  obtain ⟨p2, hp2, hf⟩ := bdE hf
  refine R_callV (As := [aI v1]) (st := []) dX10_within_2 (ct_X10_noPair _ _  hp2) mwX10_noPair mvX10_noPair mlX10_322 cl10 o_84 rfl rfl ⟨nle, nle, nle, nle⟩ nle rfl ?_
  refine R_if_eq dX10_within_5 rfl (fun h5 => ?_) (fun h5 => ?_)
  · replace hf := iposE hf h5
    refine R_aload_n dX10_within_10 rfl rfl ?_
    refine R_iload_n dX10_within_11 rfl rfl ?_
    obtain ⟨p12, hp12, hf⟩ := bdE hf
    refine R_callV (As := [aI v1]) (st := []) dX10_within_12 (ct_X10_pairAt _ _  hp12) mwX10_pairAt mvX10_pairAt mlX10_325 cl10 o_84 rfl rfl ⟨nle, nle, nle, nle⟩ nle rfl ?_
    refine R_istore_n dX10_within_15 rfl (by decide) rfl rfl ?_
    refine R_iload_n dX10_within_16 rfl rfl ?_
    refine R_istore dX10_within_17 (by decide) rfl rfl ?_
    refine R_iconst dX10_within_19 (v := 0) rfl ?_
    refine R_istore dX10_within_20 (by decide) rfl rfl ?_
    exact R_subk (rn_X10_within_L22 4096 _ _ _ _ _  hf) ⟨rfl, rfl, rfl, rfl, trivial⟩
  · replace hf := inegE hf h5
    refine R_iconst dX10_within_8 (v := 0) rfl ?_
    cases hf; exact E_iret dX10_within_9 rfl rfl rfl
/-! BracketHallModel.beside(IZ)I -/
def f_X10_beside_L43 : Nat → Int → Int → Int → Mem → Option (Int × Mem)
  | 0, _, _, _, _ => none
  | n + 1, v2, v4, v5, M =>
    (f_X10_isIn v5 0 (w32 ((M 84 26) - 1)) M).bind fun p52 =>
    if p52 = 0 then
      some ((-1), M)
    else
      (f_X10_isPair v5 M).bind fun p61 =>
      if p61 = 0 then
        if v2 = 0 then
          lt1 (w32 (v5 + (-1))) fun v5_103 =>
          f_X10_beside_L43 n v2 v4 v5_103 M
        else
          lt1 (w32 (v5 + 1)) fun v5_103 =>
          f_X10_beside_L43 n v2 v4 v5_103 M
      else
        if (0 : Int) ≤ v5 ∧ v5 < 240 then
        (f_X10_outer (M 93 v5) M).bind fun p75 =>
        if p75 = v4 then
          some (M 93 v5, M)
        else
          if v2 = 0 then
            lt1 (w32 (v5 + (-1))) fun v5_103 =>
            f_X10_beside_L43 n v2 v4 v5_103 M
          else
            lt1 (w32 (v5 + 1)) fun v5_103 =>
            f_X10_beside_L43 n v2 v4 v5_103 M
        else none
def f_X10_beside (v1 : Int) (v2 : Int) (M : Mem) : Option (Int × Mem) :=
  (f_X10_noPair v1 M).bind fun p2 =>
  if p2.1 = 0 then
    (f_X10_pairAt v1 p2.2).bind fun p12 =>
    if (0 : Int) ≤ p12 ∧ p12 < 240 then
    (f_X10_outer (p2.2 93 p12) p2.2).bind fun p23 =>
    if v2 = 0 then
      lt1 (w32 (p12 - 1)) fun v5_41 =>
      f_X10_beside_L43 4096 v2 p23 v5_41 p2.2
    else
      lt1 (w32 (p12 + 1)) fun v5_41 =>
      f_X10_beside_L43 4096 v2 p23 v5_41 p2.2
    else none
  else
    some (0, p2.2)
set_option maxRecDepth 20000 in
theorem rn_X10_beside_L43 {G : Gl} : ∀ (n : Nat) (v2 : Int) (v4 : Int) (v5 : Int) (M : Mem) (res : Int × Mem),  f_X10_beside_L43 n v2 v4 v5 M = some res → Run G false (rmD 6 0 0) miX10_beside (ZP G (some (aI res.1)) res.2) 0 0 43 [some (aR 84), none, some (aI v2), none, some (aI v4), some (aI v5)] [] M := by
  intro n
  induction n with
  | zero => intro v2 v4 v5 M res  hf; cases hf
  | succ n ih =>
    intro v2 v4 v5 M res  hf
    rw [f_X10_beside_L43] at hf
    refine R_iload dX10_beside_43 rfl ?_
    refine R_iconst dX10_beside_45 (v := 0) rfl ?_
    refine R_aload_n dX10_beside_46 rfl rfl ?_
    refine R_getI (ki := 26) dX10_beside_47 cl10 flX10_264 o_84 ff10_26 rfl rfl ?_
    refine R_iconst dX10_beside_50 (v := 1) rfl ?_
    refine R_isub dX10_beside_51 rfl ?_
    obtain ⟨p52, hp52, hf⟩ := bdE hf
    refine R_callS (As := [aI v5, aI 0, aI (w32 ((M 84 26) - 1))]) (st := []) dX10_beside_52 (ct_X10_isIn _ _ _ _  hp52) mwX10_isIn msX10_isIn mlX10_130 rfl ⟨nle, nle, nle, nle⟩ nle rfl ?_
    refine R_if_eq dX10_beside_55 rfl (fun h55 => ?_) (fun h55 => ?_)
    · replace hf := iposE hf h55
      refine R_iconst dX10_beside_108 (v := (-1)) rfl ?_
      cases hf; exact E_iret dX10_beside_109 rfl rfl rfl
    · replace hf := inegE hf h55
      refine R_aload_n dX10_beside_58 rfl rfl ?_
      refine R_iload dX10_beside_59 rfl ?_
      obtain ⟨p61, hp61, hf⟩ := bdE hf
      refine R_callV (As := [aI v5]) (st := []) dX10_beside_61 (ct_X10_isPair _ _  hp61) mwX10_isPair mvX10_isPair mlX10_275 cl10 o_84 rfl rfl ⟨nle, nle, nle, nle⟩ nle rfl ?_
      refine R_if_eq dX10_beside_64 rfl (fun h64 => ?_) (fun h64 => ?_)
      · replace hf := iposE hf h64
        refine R_iload dX10_beside_91 rfl ?_
        refine R_iload_n dX10_beside_93 rfl rfl ?_
        refine R_if_eq dX10_beside_94 rfl (fun h94 => ?_) (fun h94 => ?_)
        · replace hf := iposE hf h94
          refine R_iconst dX10_beside_101 (v := (-1)) rfl ?_
          refine R_iadd dX10_beside_102 rfl ?_
          obtain ⟨v5_103, hv5_103, hf⟩ := ltE hf
          refine R_istore dX10_beside_103 (by decide) hv5_103 rfl ?_
          refine R_goto dX10_beside_105 rfl ?_
          exact R_subk (ih _ _ _ _ _  hf) ⟨rfl, rfl, rfl, rfl, trivial⟩
        · replace hf := inegE hf h94
          refine R_iconst dX10_beside_97 (v := 1) rfl ?_
          refine R_goto dX10_beside_98 rfl ?_
          refine R_iadd dX10_beside_102 rfl ?_
          obtain ⟨v5_103, hv5_103, hf⟩ := ltE hf
          refine R_istore dX10_beside_103 (by decide) hv5_103 rfl ?_
          refine R_goto dX10_beside_105 rfl ?_
          exact R_subk (ih _ _ _ _ _  hf) ⟨rfl, rfl, rfl, rfl, trivial⟩
      · replace hf := inegE hf h64
        refine R_aload_n dX10_beside_67 rfl rfl ?_
        refine R_aload_n dX10_beside_68 rfl rfl ?_
        refine R_getR dX10_beside_69 cl10 flX10_48 o_84 ff10_27 (fr10_27 _) a_93.1 ?_
        refine R_iload dX10_beside_72 rfl ?_
        obtain ⟨hg1, hf⟩ := gdE hf
        refine R_iaload dX10_beside_74 a_93 hg1.1 hg1.2 rfl ?_
        obtain ⟨p75, hp75, hf⟩ := bdE hf
        refine R_callV (As := [aI (M 93 v5)]) (st := []) dX10_beside_75 (ct_X10_outer _ _  hp75) mwX10_outer mvX10_outer mlX10_328 cl10 o_84 rfl rfl ⟨nle, nle, nle, nle⟩ nle rfl ?_
        refine R_iload dX10_beside_78 rfl ?_
        refine R_icmp_ne dX10_beside_80 rfl (fun h80 => ?_) (fun h80 => ?_)
        · replace hf := inegE hf h80
          refine R_iload dX10_beside_91 rfl ?_
          refine R_iload_n dX10_beside_93 rfl rfl ?_
          refine R_if_eq dX10_beside_94 rfl (fun h94 => ?_) (fun h94 => ?_)
          · replace hf := iposE hf h94
            refine R_iconst dX10_beside_101 (v := (-1)) rfl ?_
            refine R_iadd dX10_beside_102 rfl ?_
            obtain ⟨v5_103, hv5_103, hf⟩ := ltE hf
            refine R_istore dX10_beside_103 (by decide) hv5_103 rfl ?_
            refine R_goto dX10_beside_105 rfl ?_
            exact R_subk (ih _ _ _ _ _  hf) ⟨rfl, rfl, rfl, rfl, trivial⟩
          · replace hf := inegE hf h94
            refine R_iconst dX10_beside_97 (v := 1) rfl ?_
            refine R_goto dX10_beside_98 rfl ?_
            refine R_iadd dX10_beside_102 rfl ?_
            obtain ⟨v5_103, hv5_103, hf⟩ := ltE hf
            refine R_istore dX10_beside_103 (by decide) hv5_103 rfl ?_
            refine R_goto dX10_beside_105 rfl ?_
            exact R_subk (ih _ _ _ _ _  hf) ⟨rfl, rfl, rfl, rfl, trivial⟩
        · replace hf := iposE hf h80
          refine R_aload_n dX10_beside_83 rfl rfl ?_
          refine R_getR dX10_beside_84 cl10 flX10_48 o_84 ff10_27 (fr10_27 _) a_93.1 ?_
          refine R_iload dX10_beside_87 rfl ?_
          refine R_iaload dX10_beside_89 a_93 hg1.1 hg1.2 rfl ?_
          cases hf; exact E_iret dX10_beside_90 rfl rfl rfl
set_option maxRecDepth 20000 in
theorem ct_X10_beside {G : Gl} (v1 : Int) (v2 : Int) (M : Mem) {res : Int × Mem}  (hf : f_X10_beside v1 v2 M = some res) : Ct G miX10_beside yX10_beside 6 [aR 84, aI v1, aI v2] M (some (aI res.1)) res.2 := by
  refine Ct.of (L := [some (aR 84), some (aI v1), some (aI v2), none, none, none]) mwX10_beside rfl trivial nle ⟨rfl, rfl, rfl, trivial⟩ ?_
  unfold f_X10_beside at hf
  refine R_aload_n dX10_beside_0 rfl rfl ?_
  refine R_iload_n dX10_beside_1 rfl rfl ?_
  obtain ⟨p2, hp2, hf⟩ := bdE hf
  refine R_callV (As := [aI v1]) (st := []) dX10_beside_2 (ct_X10_noPair _ _  hp2) mwX10_noPair mvX10_noPair mlX10_322 cl10 o_84 rfl rfl ⟨nle, nle, nle, nle⟩ nle rfl ?_
  refine R_if_eq dX10_beside_5 rfl (fun h5 => ?_) (fun h5 => ?_)
  · replace hf := iposE hf h5
    refine R_aload_n dX10_beside_10 rfl rfl ?_
    refine R_iload_n dX10_beside_11 rfl rfl ?_
    obtain ⟨p12, hp12, hf⟩ := bdE hf
    refine R_callV (As := [aI v1]) (st := []) dX10_beside_12 (ct_X10_pairAt _ _  hp12) mwX10_pairAt mvX10_pairAt mlX10_325 cl10 o_84 rfl rfl ⟨nle, nle, nle, nle⟩ nle rfl ?_
    refine R_istore_n dX10_beside_15 rfl (by decide) rfl rfl ?_
    refine R_aload_n dX10_beside_16 rfl rfl ?_
    refine R_aload_n dX10_beside_17 rfl rfl ?_
    refine R_getR dX10_beside_18 cl10 flX10_48 o_84 ff10_27 (fr10_27 _) a_93.1 ?_
    refine R_iload_n dX10_beside_21 rfl rfl ?_
    obtain ⟨hg2, hf⟩ := gdE hf
    refine R_iaload dX10_beside_22 a_93 hg2.1 hg2.2 rfl ?_
    obtain ⟨p23, hp23, hf⟩ := bdE hf
    refine R_callV (As := [aI (p2.2 93 p12)]) (st := []) dX10_beside_23 (ct_X10_outer _ _  hp23) mwX10_outer mvX10_outer mlX10_328 cl10 o_84 rfl rfl ⟨nle, nle, nle, nle⟩ nle rfl ?_
    refine R_istore dX10_beside_26 (by decide) rfl rfl ?_
    refine R_iload_n dX10_beside_28 rfl rfl ?_
    refine R_if_eq dX10_beside_29 rfl (fun h29 => ?_) (fun h29 => ?_)
    · replace hf := iposE hf h29
      refine R_iload_n dX10_beside_38 rfl rfl ?_
      refine R_iconst dX10_beside_39 (v := 1) rfl ?_
      refine R_isub dX10_beside_40 rfl ?_
      obtain ⟨v5_41, hv5_41, hf⟩ := ltE hf
      refine R_istore dX10_beside_41 (by decide) hv5_41 rfl ?_
      exact R_subk (rn_X10_beside_L43 4096 _ _ _ _ _  hf) ⟨rfl, rfl, rfl, rfl, trivial⟩
    · replace hf := inegE hf h29
      refine R_iload_n dX10_beside_32 rfl rfl ?_
      refine R_iconst dX10_beside_33 (v := 1) rfl ?_
      refine R_iadd dX10_beside_34 rfl ?_
      refine R_goto dX10_beside_35 rfl ?_
      obtain ⟨v5_41, hv5_41, hf⟩ := ltE hf
      refine R_istore dX10_beside_41 (by decide) hv5_41 rfl ?_
      exact R_subk (rn_X10_beside_L43 4096 _ _ _ _ _  hf) ⟨rfl, rfl, rfl, rfl, trivial⟩
  · replace hf := inegE hf h5
    refine R_iconst dX10_beside_8 (v := 0) rfl ?_
    cases hf; exact E_iret dX10_beside_9 rfl rfl rfl
/-! BracketHallModel.lone(I)I -/
def f_X10_lone_L13 : Nat → Int → Int → Mem → Option (Int × Mem)
  | 0, _, _, _ => none
  | n + 1, v2, v3, M =>
    if (M 84 26) ≤ v3 then
      some ((-1), M)
    else
      if (0 : Int) ≤ v3 ∧ v3 < 240 then
      if (M 96 v3) = (-1) then
        if v2 = 0 then
          some (M 93 v3, M)
        else
          lt1 (w32 (v2 + (-1))) fun v2_45 =>
          lt1 (w32 (v3 + 1)) fun v3_48 =>
          f_X10_lone_L13 n v2_45 v3_48 M
      else
        lt1 (w32 (v3 + 1)) fun v3_48 =>
        f_X10_lone_L13 n v2 v3_48 M
      else none
def f_X10_lone (v1 : Int) (M : Mem) : Option (Int × Mem) :=
  lt1 (up M 84 0 0) fun M2 =>
  (f_X10_findsPairs M2).bind fun p6 =>
  f_X10_lone_L13 4096 v1 0 p6
set_option maxRecDepth 20000 in
theorem rn_X10_lone_L13 {G : Gl} : ∀ (n : Nat) (v2 : Int) (v3 : Int) (M : Mem) (res : Int × Mem),  f_X10_lone_L13 n v2 v3 M = some res → Run G false (rmD 4 0 0) miX10_lone (ZP G (some (aI res.1)) res.2) 0 0 13 [some (aR 84), none, some (aI v2), some (aI v3)] [] M := by
  intro n
  induction n with
  | zero => intro v2 v3 M res  hf; cases hf
  | succ n ih =>
    intro v2 v3 M res  hf
    rw [f_X10_lone_L13] at hf
    refine R_iload_n dX10_lone_13 rfl rfl ?_
    refine R_aload_n dX10_lone_14 rfl rfl ?_
    refine R_getI (ki := 26) dX10_lone_15 cl10 flX10_264 o_84 ff10_26 rfl rfl ?_
    refine R_icmp_ge dX10_lone_18 rfl (fun h18 => ?_) (fun h18 => ?_)
    · replace hf := iposE hf h18
      refine R_iconst dX10_lone_54 (v := (-1)) rfl ?_
      cases hf; exact E_iret dX10_lone_55 rfl rfl rfl
    · replace hf := inegE hf h18
      refine R_aload_n dX10_lone_21 rfl rfl ?_
      refine R_getR dX10_lone_22 cl10 flX10_58 o_84 ff10_30 (fr10_30 _) a_96.1 ?_
      refine R_iload_n dX10_lone_25 rfl rfl ?_
      obtain ⟨hg1, hf⟩ := gdE hf
      refine R_iaload dX10_lone_26 a_96 hg1.1 hg1.2 rfl ?_
      refine R_iconst dX10_lone_27 (v := (-1)) rfl ?_
      refine R_icmp_eq dX10_lone_28 rfl (fun h28 => ?_) (fun h28 => ?_)
      · replace hf := iposE hf h28
        refine R_iload_n dX10_lone_34 rfl rfl ?_
        refine R_if_ne dX10_lone_35 rfl (fun h35 => ?_) (fun h35 => ?_)
        · replace hf := inegE hf h35
          obtain ⟨v2_45, hv2_45, hf⟩ := ltE hf
          refine R_iinc dX10_lone_45 rfl rfl hv2_45 (by decide) rfl ?_
          obtain ⟨v3_48, hv3_48, hf⟩ := ltE hf
          refine R_iinc dX10_lone_48 rfl rfl hv3_48 (by decide) rfl ?_
          refine R_goto dX10_lone_51 rfl ?_
          exact R_subk (ih _ _ _ _  hf) ⟨rfl, rfl, rfl, trivial⟩
        · replace hf := iposE hf h35
          refine R_aload_n dX10_lone_38 rfl rfl ?_
          refine R_getR dX10_lone_39 cl10 flX10_48 o_84 ff10_27 (fr10_27 _) a_93.1 ?_
          refine R_iload_n dX10_lone_42 rfl rfl ?_
          refine R_iaload dX10_lone_43 a_93 hg1.1 hg1.2 rfl ?_
          cases hf; exact E_iret dX10_lone_44 rfl rfl rfl
      · replace hf := inegE hf h28
        refine R_goto dX10_lone_31 rfl ?_
        obtain ⟨v3_48, hv3_48, hf⟩ := ltE hf
        refine R_iinc dX10_lone_48 rfl rfl hv3_48 (by decide) rfl ?_
        refine R_goto dX10_lone_51 rfl ?_
        exact R_subk (ih _ _ _ _  hf) ⟨rfl, rfl, rfl, trivial⟩
set_option maxRecDepth 20000 in
theorem ct_X10_lone {G : Gl} (v1 : Int) (M : Mem) {res : Int × Mem}  (hf : f_X10_lone v1 M = some res) : Ct G miX10_lone yX10_lone 4 [aR 84, aI v1] M (some (aI res.1)) res.2 := by
  refine Ct.of (L := [some (aR 84), some (aI v1), none, none]) mwX10_lone rfl trivial nle ⟨rfl, rfl, trivial⟩ ?_
  unfold f_X10_lone at hf
  refine R_aload_n dX10_lone_0 rfl rfl ?_
  refine R_iconst dX10_lone_1 (v := 0) rfl ?_
  obtain ⟨M2, hM2, hf⟩ := ltE hf
  refine R_put (ki := 0) dX10_lone_2 cl10 flX10_117 o_84 (Or.inl fz10_0) rfl hM2 ?_
  refine R_aload_n dX10_lone_5 rfl rfl ?_
  obtain ⟨p6, hp6, hf⟩ := bdE hf
  refine R_callV (As := []) (st := []) dX10_lone_6 (ct_X10_findsPairs  _  hp6) mwX10_findsPairs mvX10_findsPairs mlX10_292 cl10 o_84 rfl rfl ⟨nle, nle, nle, nle⟩ nle rfl ?_
  refine R_iload_n dX10_lone_9 rfl rfl ?_
  refine R_istore_n dX10_lone_10 rfl (by decide) rfl rfl ?_
  refine R_iconst dX10_lone_11 (v := 0) rfl ?_
  refine R_istore_n dX10_lone_12 rfl (by decide) rfl rfl ?_
  exact R_subk (rn_X10_lone_L13 4096 _ _ _ _  hf) ⟨rfl, rfl, rfl, trivial⟩
