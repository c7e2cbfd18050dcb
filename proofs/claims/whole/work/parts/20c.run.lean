/-! BracketHall$Page.hasRange(II)Z -/
def f_X4_hasRange (o0 : Nat) (v1 : Int) (v2 : Int) (M : Mem) : Option (Int) :=
  if v1 < 0 then
    some 0
  else
    if v2 < v1 then
      some 0
    else
      if (M o0 2) < v2 then
        some 0
      else
        some 1
set_option maxRecDepth 20000 in
theorem ct_X4_hasRange {G : Gl} (o0 : Nat) (v1 : Int) (v2 : Int) (M : Mem) {res : Int} (ho0 : isO 4 o0) (hf : f_X4_hasRange o0 v1 v2 M = some res) : Ct G miX4_hasRange yX4_hasRange 0 [aR o0, aI v1, aI v2] M (some (aI res)) M := by
  refine Ct.of (L := [some (aR o0), some (aI v1), some (aI v2)]) mwX4_hasRange rfl trivial nle ⟨rfl, rfl, rfl, trivial⟩ ?_
  unfold f_X4_hasRange at hf
  refine R_iload_n dX4_hasRange_0 rfl rfl ?_
  refine R_if_lt dX4_hasRange_1 rfl (fun h1 => ?_) (fun h1 => ?_)
  · replace hf := iposE hf h1
    refine R_iconst dX4_hasRange_21 (v := 0) rfl ?_
    cases hf; exact E_zret dX4_hasRange_22 rfl (by decide) rfl rfl
  · replace hf := inegE hf h1
    refine R_iload_n dX4_hasRange_4 rfl rfl ?_
    refine R_iload_n dX4_hasRange_5 rfl rfl ?_
    refine R_icmp_gt dX4_hasRange_6 rfl (fun h6 => ?_) (fun h6 => ?_)
    · replace hf := iposE hf h6
      refine R_iconst dX4_hasRange_21 (v := 0) rfl ?_
      cases hf; exact E_zret dX4_hasRange_22 rfl (by decide) rfl rfl
    · replace hf := inegE hf h6
      refine R_iload_n dX4_hasRange_9 rfl rfl ?_
      refine R_aload_n dX4_hasRange_10 rfl rfl ?_
      refine R_getI (ki := 2) dX4_hasRange_11 cl4 flX4_18 ho0 ff4_2 rfl rfl ?_
      refine R_icmp_gt dX4_hasRange_14 rfl (fun h14 => ?_) (fun h14 => ?_)
      · replace hf := iposE hf h14
        refine R_iconst dX4_hasRange_21 (v := 0) rfl ?_
        cases hf; exact E_zret dX4_hasRange_22 rfl (by decide) rfl rfl
      · replace hf := inegE hf h14
        refine R_iconst dX4_hasRange_17 (v := 1) rfl ?_
        refine R_goto dX4_hasRange_18 rfl ?_
        cases hf; exact E_zret dX4_hasRange_22 rfl (by decide) rfl rfl
/-! BracketHall$Page.hasRoom(I)Z -/
def f_X4_hasRoom (o0 : Nat) (v1 : Int) (M : Mem) : Option (Int) :=
  if (w32 (240 - (M o0 2))) < v1 then
    some 0
  else
    some 1
set_option maxRecDepth 20000 in
theorem ct_X4_hasRoom {G : Gl} (o0 : Nat) (v1 : Int) (M : Mem) {res : Int} (ho0 : isO 4 o0) (hf : f_X4_hasRoom o0 v1 M = some res) : Ct G miX4_hasRoom yX4_hasRoom 0 [aR o0, aI v1] M (some (aI res)) M := by
  refine Ct.of (L := [some (aR o0), some (aI v1)]) mwX4_hasRoom rfl trivial nle ⟨rfl, rfl, trivial⟩ ?_
  unfold f_X4_hasRoom at hf
  refine R_iload_n dX4_hasRoom_0 rfl rfl ?_
  refine R_sipush dX4_hasRoom_1 (v := 240) rfl ?_
  refine R_aload_n dX4_hasRoom_4 rfl rfl ?_
  refine R_getI (ki := 2) dX4_hasRoom_5 cl4 flX4_18 ho0 ff4_2 rfl rfl ?_
  refine R_isub dX4_hasRoom_8 rfl ?_
  refine R_icmp_gt dX4_hasRoom_9 rfl (fun h9 => ?_) (fun h9 => ?_)
  · replace hf := iposE hf h9
    refine R_iconst dX4_hasRoom_16 (v := 0) rfl ?_
    cases hf; exact E_zret dX4_hasRoom_17 rfl (by decide) rfl rfl
  · replace hf := inegE hf h9
    refine R_iconst dX4_hasRoom_12 (v := 1) rfl ?_
    refine R_goto dX4_hasRoom_13 rfl ?_
    cases hf; exact E_zret dX4_hasRoom_17 rfl (by decide) rfl rfl
/-! BracketHall$Page.byteAt(I)I -/
def f_X4_byteAt (o0 : Nat) (v1 : Int) (M : Mem) : Option (Int) :=
  (f_X4_hasByte o0 v1 M).bind fun p2 =>
  if p2 = 0 then
    some (-1)
  else
    if (0 : Int) ≤ v1 ∧ v1 < 240 then
    some (M (o0 + 1) v1)
    else none
set_option maxRecDepth 20000 in
theorem ct_X4_byteAt {G : Gl} (o0 : Nat) (v1 : Int) (M : Mem) {res : Int} (ho0 : isO 4 o0) (hf : f_X4_byteAt o0 v1 M = some res) : Ct G miX4_byteAt yX4_byteAt 1 [aR o0, aI v1] M (some (aI res)) M := by
  refine Ct.of (L := [some (aR o0), some (aI v1)]) mwX4_byteAt rfl trivial nle ⟨rfl, rfl, trivial⟩ ?_
  unfold f_X4_byteAt at hf
  refine R_aload_n dX4_byteAt_0 rfl rfl ?_
  refine R_iload_n dX4_byteAt_1 rfl rfl ?_
  obtain ⟨p2, hp2, hf⟩ := bdE hf
  refine R_callV (As := [aI v1]) (st := []) dX4_byteAt_2 (ct_X4_hasByte _ _ _ ho0 hp2) mwX4_hasByte mvX4_hasByte mlX4_47 cl4 ho0 rfl rfl ⟨nle, nle, nle, nle⟩ nle rfl ?_
  refine R_if_eq dX4_byteAt_5 rfl (fun h5 => ?_) (fun h5 => ?_)
  · replace hf := iposE hf h5
    refine R_iconst dX4_byteAt_17 (v := (-1)) rfl ?_
    cases hf; exact E_iret dX4_byteAt_18 rfl rfl rfl
  · replace hf := inegE hf h5
    refine R_aload_n dX4_byteAt_8 rfl rfl ?_
    refine R_getR dX4_byteAt_9 cl4 flX4_9 ho0 ff4_0 (fr4_0 _) (k4_1 ho0).1 ?_
    refine R_iload_n dX4_byteAt_12 rfl rfl ?_
    obtain ⟨hg1, hf⟩ := gdE hf
    refine R_iaload dX4_byteAt_13 (k4_1 ho0) hg1.1 hg1.2 rfl ?_
    refine R_goto dX4_byteAt_14 rfl ?_
    cases hf; exact E_iret dX4_byteAt_18 rfl rfl rfl
/-! BracketHall$Page.setByte(II)V -/
def f_X4_setByte (o0 : Nat) (v1 : Int) (v2 : Int) (M : Mem) : Option (Mem) :=
  (f_X4_hasByte o0 v1 M).bind fun p2 =>
  if p2 = 0 then
    some M
  else
    if (0 : Int) ≤ v1 ∧ v1 < 240 then
    lt1 (up M (o0 + 1) v1 v2) fun M14 =>
    some M14
    else none
set_option maxRecDepth 20000 in
theorem ct_X4_setByte {G : Gl} (o0 : Nat) (v1 : Int) (v2 : Int) (M : Mem) {res : Mem} (ho0 : isO 4 o0) (hf : f_X4_setByte o0 v1 v2 M = some res) : Ct G miX4_setByte yX4_setByte 1 [aR o0, aI v1, aI v2] M none res := by
  refine Ct.of (L := [some (aR o0), some (aI v1), some (aI v2)]) mwX4_setByte rfl trivial nle ⟨rfl, rfl, rfl, trivial⟩ ?_
  unfold f_X4_setByte at hf
  refine R_aload_n dX4_setByte_0 rfl rfl ?_
  refine R_iload_n dX4_setByte_1 rfl rfl ?_
  obtain ⟨p2, hp2, hf⟩ := bdE hf
  refine R_callV (As := [aI v1]) (st := []) dX4_setByte_2 (ct_X4_hasByte _ _ _ ho0 hp2) mwX4_hasByte mvX4_hasByte mlX4_47 cl4 ho0 rfl rfl ⟨nle, nle, nle, nle⟩ nle rfl ?_
  refine R_if_eq dX4_setByte_5 rfl (fun h5 => ?_) (fun h5 => ?_)
  · replace hf := iposE hf h5
    cases hf; exact E_vret dX4_setByte_15 rfl rfl rfl
  · replace hf := inegE hf h5
    refine R_aload_n dX4_setByte_8 rfl rfl ?_
    refine R_getR dX4_setByte_9 cl4 flX4_9 ho0 ff4_0 (fr4_0 _) (k4_1 ho0).1 ?_
    refine R_iload_n dX4_setByte_12 rfl rfl ?_
    refine R_iload_n dX4_setByte_13 rfl rfl ?_
    obtain ⟨hg1, hf⟩ := gdE hf
    obtain ⟨M14, hM14, hf⟩ := ltE hf
    refine R_iastore dX4_setByte_14 (k4_1 ho0) hg1.1 hg1.2 hM14 ?_
    cases hf; exact E_vret dX4_setByte_15 rfl rfl rfl
/-! BracketHall$Page.lineOf(I)I -/
def f_X4_lineOf_L4 : Nat → Nat → Int → Int → Int → Mem → Option (Int)
  | 0, _, _, _, _, _ => none
  | n + 1, o0, v1, v2, v3, M =>
    if v1 ≤ v3 then
      some v2
    else
      if (M o0 2) ≤ v3 then
        some v2
      else
        if (0 : Int) ≤ v3 ∧ v3 < 240 then
        if (M (o0 + 1) v3) = 10 then
          lt1 (w32 (v2 + 1)) fun v2_28 =>
          lt1 (w32 (v3 + 1)) fun v3_31 =>
          f_X4_lineOf_L4 n o0 v1 v2_28 v3_31 M
        else
          lt1 (w32 (v3 + 1)) fun v3_31 =>
          f_X4_lineOf_L4 n o0 v1 v2 v3_31 M
        else none
def f_X4_lineOf (o0 : Nat) (v1 : Int) (M : Mem) : Option (Int) :=
  f_X4_lineOf_L4 4096 o0 v1 0 0 M
set_option maxRecDepth 20000 in
theorem rn_X4_lineOf_L4 {G : Gl} : ∀ (n : Nat) (o0 : Nat) (v1 : Int) (v2 : Int) (v3 : Int) (M : Mem) (res : Int), isO 4 o0 → f_X4_lineOf_L4 n o0 v1 v2 v3 M = some res → Run G false (rmD 0 0 0) miX4_lineOf (ZP G (some (aI res)) M) 0 0 4 [some (aR o0), some (aI v1), some (aI v2), some (aI v3)] [] M := by
  intro n
  induction n with
  | zero => intro o0 v1 v2 v3 M res ho0 hf; cases hf
  | succ n ih =>
    intro o0 v1 v2 v3 M res ho0 hf
    rw [f_X4_lineOf_L4] at hf
    refine R_iload_n dX4_lineOf_4 rfl rfl ?_
    refine R_iload_n dX4_lineOf_5 rfl rfl ?_
    refine R_icmp_ge dX4_lineOf_6 rfl (fun h6 => ?_) (fun h6 => ?_)
    · replace hf := iposE hf h6
      refine R_iload_n dX4_lineOf_37 rfl rfl ?_
      cases hf; exact E_iret dX4_lineOf_38 rfl rfl rfl
    · replace hf := inegE hf h6
      refine R_iload_n dX4_lineOf_9 rfl rfl ?_
      refine R_aload_n dX4_lineOf_10 rfl rfl ?_
      refine R_getI (ki := 2) dX4_lineOf_11 cl4 flX4_18 ho0 ff4_2 rfl rfl ?_
      refine R_icmp_ge dX4_lineOf_14 rfl (fun h14 => ?_) (fun h14 => ?_)
      · replace hf := iposE hf h14
        refine R_iload_n dX4_lineOf_37 rfl rfl ?_
        cases hf; exact E_iret dX4_lineOf_38 rfl rfl rfl
      · replace hf := inegE hf h14
        refine R_aload_n dX4_lineOf_17 rfl rfl ?_
        refine R_getR dX4_lineOf_18 cl4 flX4_9 ho0 ff4_0 (fr4_0 _) (k4_1 ho0).1 ?_
        refine R_iload_n dX4_lineOf_21 rfl rfl ?_
        obtain ⟨hg1, hf⟩ := gdE hf
        refine R_iaload dX4_lineOf_22 (k4_1 ho0) hg1.1 hg1.2 rfl ?_
        refine R_bipush dX4_lineOf_23 (v := 10) rfl ?_
        refine R_icmp_ne dX4_lineOf_25 rfl (fun h25 => ?_) (fun h25 => ?_)
        · replace hf := inegE hf h25
          obtain ⟨v3_31, hv3_31, hf⟩ := ltE hf
          refine R_iinc dX4_lineOf_31 rfl rfl hv3_31 (by decide) rfl ?_
          refine R_goto dX4_lineOf_34 rfl ?_
          exact R_subk (ih _ _ _ _ _ _ ho0 hf) ⟨rfl, rfl, rfl, rfl, trivial⟩
        · replace hf := iposE hf h25
          obtain ⟨v2_28, hv2_28, hf⟩ := ltE hf
          refine R_iinc dX4_lineOf_28 rfl rfl hv2_28 (by decide) rfl ?_
          obtain ⟨v3_31, hv3_31, hf⟩ := ltE hf
          refine R_iinc dX4_lineOf_31 rfl rfl hv3_31 (by decide) rfl ?_
          refine R_goto dX4_lineOf_34 rfl ?_
          exact R_subk (ih _ _ _ _ _ _ ho0 hf) ⟨rfl, rfl, rfl, rfl, trivial⟩
set_option maxRecDepth 20000 in
theorem ct_X4_lineOf {G : Gl} (o0 : Nat) (v1 : Int) (M : Mem) {res : Int} (ho0 : isO 4 o0) (hf : f_X4_lineOf o0 v1 M = some res) : Ct G miX4_lineOf yX4_lineOf 0 [aR o0, aI v1] M (some (aI res)) M := by
  refine Ct.of (L := [some (aR o0), some (aI v1), none, none]) mwX4_lineOf rfl trivial nle ⟨rfl, rfl, trivial⟩ ?_
  unfold f_X4_lineOf at hf
  refine R_iconst dX4_lineOf_0 (v := 0) rfl ?_
  refine R_istore_n dX4_lineOf_1 rfl (by decide) rfl rfl ?_
  refine R_iconst dX4_lineOf_2 (v := 0) rfl ?_
  refine R_istore_n dX4_lineOf_3 rfl (by decide) rfl rfl ?_
  exact R_subk (rn_X4_lineOf_L4 4096 _ _ _ _ _ _ ho0 hf) ⟨rfl, rfl, rfl, rfl, trivial⟩
/-! BracketHall$Page.columnOf(I)I -/
def f_X4_columnOf_L2 : Nat → Nat → Int → Int → Mem → Option (Int)
  | 0, _, _, _, _ => none
  | n + 1, o0, v1, v2, M =>
    if v1 ≤ v2 then
      some v2
    else
      (f_X4_byteAt o0 (w32 ((w32 (v1 - v2)) - 1)) M).bind fun p13 =>
      if p13 = 10 then
        some v2
      else
        lt1 (w32 (v2 + 1)) fun v2_21 =>
        f_X4_columnOf_L2 n o0 v1 v2_21 M
def f_X4_columnOf (o0 : Nat) (v1 : Int) (M : Mem) : Option (Int) :=
  f_X4_columnOf_L2 4096 o0 v1 0 M
set_option maxRecDepth 20000 in
theorem rn_X4_columnOf_L2 {G : Gl} : ∀ (n : Nat) (o0 : Nat) (v1 : Int) (v2 : Int) (M : Mem) (res : Int), isO 4 o0 → f_X4_columnOf_L2 n o0 v1 v2 M = some res → Run G false (rmD 2 0 0) miX4_columnOf (ZP G (some (aI res)) M) 0 0 2 [some (aR o0), some (aI v1), some (aI v2)] [] M := by
  intro n
  induction n with
  | zero => intro o0 v1 v2 M res ho0 hf; cases hf
  | succ n ih =>
    intro o0 v1 v2 M res ho0 hf
    rw [f_X4_columnOf_L2] at hf
    refine R_iload_n dX4_columnOf_2 rfl rfl ?_
    refine R_iload_n dX4_columnOf_3 rfl rfl ?_
    refine R_icmp_ge dX4_columnOf_4 rfl (fun h4 => ?_) (fun h4 => ?_)
    · replace hf := iposE hf h4
      refine R_iload_n dX4_columnOf_27 rfl rfl ?_
      cases hf; exact E_iret dX4_columnOf_28 rfl rfl rfl
    · replace hf := inegE hf h4
      refine R_aload_n dX4_columnOf_7 rfl rfl ?_
      refine R_iload_n dX4_columnOf_8 rfl rfl ?_
      refine R_iload_n dX4_columnOf_9 rfl rfl ?_
      refine R_isub dX4_columnOf_10 rfl ?_
      refine R_iconst dX4_columnOf_11 (v := 1) rfl ?_
      refine R_isub dX4_columnOf_12 rfl ?_
      obtain ⟨p13, hp13, hf⟩ := bdE hf
      refine R_callV (As := [aI (w32 ((w32 (v1 - v2)) - 1))]) (st := []) dX4_columnOf_13 (ct_X4_byteAt _ _ _ ho0 hp13) mwX4_byteAt mvX4_byteAt mlX4_51 cl4 ho0 rfl rfl ⟨nle, nle, nle, nle⟩ nle rfl ?_
      refine R_bipush dX4_columnOf_16 (v := 10) rfl ?_
      refine R_icmp_eq dX4_columnOf_18 rfl (fun h18 => ?_) (fun h18 => ?_)
      · replace hf := iposE hf h18
        refine R_iload_n dX4_columnOf_27 rfl rfl ?_
        cases hf; exact E_iret dX4_columnOf_28 rfl rfl rfl
      · replace hf := inegE hf h18
        obtain ⟨v2_21, hv2_21, hf⟩ := ltE hf
        refine R_iinc dX4_columnOf_21 rfl rfl hv2_21 (by decide) rfl ?_
        refine R_goto dX4_columnOf_24 rfl ?_
        exact R_subk (ih _ _ _ _ _ ho0 hf) ⟨rfl, rfl, rfl, trivial⟩
set_option maxRecDepth 20000 in
theorem ct_X4_columnOf {G : Gl} (o0 : Nat) (v1 : Int) (M : Mem) {res : Int} (ho0 : isO 4 o0) (hf : f_X4_columnOf o0 v1 M = some res) : Ct G miX4_columnOf yX4_columnOf 2 [aR o0, aI v1] M (some (aI res)) M := by
  refine Ct.of (L := [some (aR o0), some (aI v1), none]) mwX4_columnOf rfl trivial nle ⟨rfl, rfl, trivial⟩ ?_
  unfold f_X4_columnOf at hf
  refine R_iconst dX4_columnOf_0 (v := 0) rfl ?_
  refine R_istore_n dX4_columnOf_1 rfl (by decide) rfl rfl ?_
  exact R_subk (rn_X4_columnOf_L2 4096 _ _ _ _ _ ho0 hf) ⟨rfl, rfl, rfl, trivial⟩
/-! BracketHall$Page.makeRoom(II)V -/
def f_X4_makeRoom_L54 : Nat → Nat → Int → Int → Int → Mem → Option (Mem)
  | 0, _, _, _, _, _ => none
  | n + 1, o0, v1, v2, v3, M =>
    if (M o0 3) ≤ v3 then
      some M
    else
      if (0 : Int) ≤ v3 ∧ v3 < 8 then
      if (M (o0 + 2) v3) < v1 then
        lt1 (w32 (v3 + 1)) fun v3_82 =>
        f_X4_makeRoom_L54 n o0 v1 v2 v3_82 M
      else
        lt1 (up M (o0 + 2) v3 (w32 ((M (o0 + 2) v3) + v2))) fun M81 =>
        lt1 (w32 (v3 + 1)) fun v3_82 =>
        f_X4_makeRoom_L54 n o0 v1 v2 v3_82 M81
      else none
def f_X4_makeRoom (o0 : Nat) (v1 : Int) (v2 : Int) (M : Mem) : Option (Mem) :=
  (f_X4_hasPlace o0 v1 M).bind fun p2 =>
  if p2 = 0 then
    some M
  else
    if v2 < 0 then
      some M
    else
      (f_X4_hasRoom o0 v2 M).bind fun p14 =>
      if p14 = 0 then
        some M
      else
        if (0 : Int) ≤ v1 ∧ (0 : Int) ≤ (w32 (v1 + v2)) ∧ (0 : Int) ≤ (w32 ((M o0 2) - v1)) ∧ v1 + (w32 ((M o0 2) - v1)) ≤ (240 : Int) ∧ (w32 (v1 + v2)) + (w32 ((M o0 2) - v1)) ≤ (240 : Int) then
        lt1 (upc M (o0 + 1) v1 (o0 + 1) (w32 (v1 + v2)) (w32 ((M o0 2) - v1))) fun M39 =>
        lt1 (up M39 o0 2 (w32 ((M39 o0 2) + v2))) fun M49 =>
        f_X4_makeRoom_L54 4096 o0 v1 v2 0 M49
        else none
set_option maxRecDepth 20000 in
theorem rn_X4_makeRoom_L54 {G : Gl} : ∀ (n : Nat) (o0 : Nat) (v1 : Int) (v2 : Int) (v3 : Int) (M : Mem) (res : Mem), isO 4 o0 → f_X4_makeRoom_L54 n o0 v1 v2 v3 M = some res → Run G false (rmD 1 0 0) miX4_makeRoom (ZP G none res) 0 0 54 [some (aR o0), some (aI v1), some (aI v2), some (aI v3)] [] M := by
  intro n
  induction n with
  | zero => intro o0 v1 v2 v3 M res ho0 hf; cases hf
  | succ n ih =>
    intro o0 v1 v2 v3 M res ho0 hf
    rw [f_X4_makeRoom_L54] at hf
    refine R_iload_n dX4_makeRoom_54 rfl rfl ?_
    refine R_aload_n dX4_makeRoom_55 rfl rfl ?_
    refine R_getI (ki := 3) dX4_makeRoom_56 cl4 flX4_22 ho0 ff4_3 rfl rfl ?_
    refine R_icmp_ge dX4_makeRoom_59 rfl (fun h59 => ?_) (fun h59 => ?_)
    · replace hf := iposE hf h59
      cases hf; exact E_vret dX4_makeRoom_88 rfl rfl rfl
    · replace hf := inegE hf h59
      refine R_aload_n dX4_makeRoom_62 rfl rfl ?_
      refine R_getR dX4_makeRoom_63 cl4 flX4_15 ho0 ff4_1 (fr4_1 _) (k4_2 ho0).1 ?_
      refine R_iload_n dX4_makeRoom_66 rfl rfl ?_
      obtain ⟨hg1, hf⟩ := gdE hf
      refine R_iaload dX4_makeRoom_67 (k4_2 ho0) hg1.1 hg1.2 rfl ?_
      refine R_iload_n dX4_makeRoom_68 rfl rfl ?_
      refine R_icmp_lt dX4_makeRoom_69 rfl (fun h69 => ?_) (fun h69 => ?_)
      · replace hf := iposE hf h69
        obtain ⟨v3_82, hv3_82, hf⟩ := ltE hf
        refine R_iinc dX4_makeRoom_82 rfl rfl hv3_82 (by decide) rfl ?_
        refine R_goto dX4_makeRoom_85 rfl ?_
        exact R_subk (ih _ _ _ _ _ _ ho0 hf) ⟨rfl, rfl, rfl, rfl, trivial⟩
      · replace hf := inegE hf h69
        refine R_aload_n dX4_makeRoom_72 rfl rfl ?_
        refine R_getR dX4_makeRoom_73 cl4 flX4_15 ho0 ff4_1 (fr4_1 _) (k4_2 ho0).1 ?_
        refine R_iload_n dX4_makeRoom_76 rfl rfl ?_
        refine R_dup2 dX4_makeRoom_77 ?_
        refine R_iaload dX4_makeRoom_78 (k4_2 ho0) hg1.1 hg1.2 rfl ?_
        refine R_iload_n dX4_makeRoom_79 rfl rfl ?_
        refine R_iadd dX4_makeRoom_80 rfl ?_
        obtain ⟨M81, hM81, hf⟩ := ltE hf
        refine R_iastore dX4_makeRoom_81 (k4_2 ho0) hg1.1 hg1.2 hM81 ?_
        obtain ⟨v3_82, hv3_82, hf⟩ := ltE hf
        refine R_iinc dX4_makeRoom_82 rfl rfl hv3_82 (by decide) rfl ?_
        refine R_goto dX4_makeRoom_85 rfl ?_
        exact R_subk (ih _ _ _ _ _ _ ho0 hf) ⟨rfl, rfl, rfl, rfl, trivial⟩
set_option maxRecDepth 20000 in
theorem ct_X4_makeRoom {G : Gl} (o0 : Nat) (v1 : Int) (v2 : Int) (M : Mem) {res : Mem} (ho0 : isO 4 o0) (hf : f_X4_makeRoom o0 v1 v2 M = some res) : Ct G miX4_makeRoom yX4_makeRoom 1 [aR o0, aI v1, aI v2] M none res := by
  refine Ct.of (L := [some (aR o0), some (aI v1), some (aI v2), none]) mwX4_makeRoom rfl trivial nle ⟨rfl, rfl, rfl, trivial⟩ ?_
  unfold f_X4_makeRoom at hf
  refine R_aload_n dX4_makeRoom_0 rfl rfl ?_
  refine R_iload_n dX4_makeRoom_1 rfl rfl ?_
  obtain ⟨p2, hp2, hf⟩ := bdE hf
  refine R_callV (As := [aI v1]) (st := []) dX4_makeRoom_2 (ct_X4_hasPlace _ _ _ ho0 hp2) mwX4_hasPlace mvX4_hasPlace mlX4_65 cl4 ho0 rfl rfl ⟨nle, nle, nle, nle⟩ nle rfl ?_
  refine R_if_eq dX4_makeRoom_5 rfl (fun h5 => ?_) (fun h5 => ?_)
  · replace hf := iposE hf h5
    cases hf; exact E_vret dX4_makeRoom_20 rfl rfl rfl
  · replace hf := inegE hf h5
    refine R_iload_n dX4_makeRoom_8 rfl rfl ?_
    refine R_if_lt dX4_makeRoom_9 rfl (fun h9 => ?_) (fun h9 => ?_)
    · replace hf := iposE hf h9
      cases hf; exact E_vret dX4_makeRoom_20 rfl rfl rfl
    · replace hf := inegE hf h9
      refine R_aload_n dX4_makeRoom_12 rfl rfl ?_
      refine R_iload_n dX4_makeRoom_13 rfl rfl ?_
      obtain ⟨p14, hp14, hf⟩ := bdE hf
      refine R_callV (As := [aI v2]) (st := []) dX4_makeRoom_14 (ct_X4_hasRoom _ _ _ ho0 hp14) mwX4_hasRoom mvX4_hasRoom mlX4_68 cl4 ho0 rfl rfl ⟨nle, nle, nle, nle⟩ nle rfl ?_
      refine R_if_ne dX4_makeRoom_17 rfl (fun h17 => ?_) (fun h17 => ?_)
      · replace hf := inegE hf h17
        refine R_aload_n dX4_makeRoom_21 rfl rfl ?_
        refine R_getR dX4_makeRoom_22 cl4 flX4_9 ho0 ff4_0 (fr4_0 _) (k4_1 ho0).1 ?_
        refine R_iload_n dX4_makeRoom_25 rfl rfl ?_
        refine R_aload_n dX4_makeRoom_26 rfl rfl ?_
        refine R_getR dX4_makeRoom_27 cl4 flX4_9 ho0 ff4_0 (fr4_0 _) (k4_1 ho0).1 ?_
        refine R_iload_n dX4_makeRoom_30 rfl rfl ?_
        refine R_iload_n dX4_makeRoom_31 rfl rfl ?_
        refine R_iadd dX4_makeRoom_32 rfl ?_
        refine R_aload_n dX4_makeRoom_33 rfl rfl ?_
        refine R_getI (ki := 2) dX4_makeRoom_34 cl4 flX4_18 ho0 ff4_2 rfl rfl ?_
        refine R_iload_n dX4_makeRoom_37 rfl rfl ?_
        refine R_isub dX4_makeRoom_38 rfl ?_
        obtain ⟨hg2, hf⟩ := gdE hf
        obtain ⟨M39, hM39, hf⟩ := ltE hf
        refine R_copy dX4_makeRoom_39 jlX4_37 jw_copy ⟨nle, nle⟩ nle (k4_1 ho0) (k4_1 ho0) hg2.1 hg2.2.1 hg2.2.2.1 hg2.2.2.2.1 hg2.2.2.2.2 hM39 ?_
        refine R_aload_n dX4_makeRoom_42 rfl rfl ?_
        refine R_dupR dX4_makeRoom_43 ?_
        refine R_getI (ki := 2) dX4_makeRoom_44 cl4 flX4_18 ho0 ff4_2 rfl rfl ?_
        refine R_iload_n dX4_makeRoom_47 rfl rfl ?_
        refine R_iadd dX4_makeRoom_48 rfl ?_
        obtain ⟨M49, hM49, hf⟩ := ltE hf
        refine R_put (ki := 2) dX4_makeRoom_49 cl4 flX4_18 ho0 (Or.inl fz4_2) rfl hM49 ?_
        refine R_iconst dX4_makeRoom_52 (v := 0) rfl ?_
        refine R_istore_n dX4_makeRoom_53 rfl (by decide) rfl rfl ?_
        exact R_subk (rn_X4_makeRoom_L54 4096 _ _ _ _ _ _ ho0 hf) ⟨rfl, rfl, rfl, rfl, trivial⟩
      · replace hf := iposE hf h17
        cases hf; exact E_vret dX4_makeRoom_20 rfl rfl rfl
/-! BracketHall$Page.putByte(II)V -/
def f_X4_putByte (o0 : Nat) (v1 : Int) (v2 : Int) (M : Mem) : Option (Mem) :=
  (f_X4_makeRoom o0 v1 1 M).bind fun p3 =>
  (f_X4_setByte o0 v1 v2 p3).bind fun p9 =>
  some p9
set_option maxRecDepth 20000 in
theorem ct_X4_putByte {G : Gl} (o0 : Nat) (v1 : Int) (v2 : Int) (M : Mem) {res : Mem} (ho0 : isO 4 o0) (hf : f_X4_putByte o0 v1 v2 M = some res) : Ct G miX4_putByte yX4_putByte 2 [aR o0, aI v1, aI v2] M none res := by
  refine Ct.of (L := [some (aR o0), some (aI v1), some (aI v2)]) mwX4_putByte rfl trivial nle ⟨rfl, rfl, rfl, trivial⟩ ?_
  unfold f_X4_putByte at hf
  refine R_aload_n dX4_putByte_0 rfl rfl ?_
  refine R_iload_n dX4_putByte_1 rfl rfl ?_
  refine R_iconst dX4_putByte_2 (v := 1) rfl ?_
  obtain ⟨p3, hp3, hf⟩ := bdE hf
  refine R_callV (As := [aI v1, aI 1]) (st := []) dX4_putByte_3 (ct_X4_makeRoom _ _ _ _ ho0 hp3) mwX4_makeRoom mvX4_makeRoom mlX4_55 cl4 ho0 rfl rfl ⟨nle, nle, nle, nle⟩ nle rfl ?_
  refine R_aload_n dX4_putByte_6 rfl rfl ?_
  refine R_iload_n dX4_putByte_7 rfl rfl ?_
  refine R_iload_n dX4_putByte_8 rfl rfl ?_
  obtain ⟨p9, hp9, hf⟩ := bdE hf
  refine R_callV (As := [aI v1, aI v2]) (st := []) dX4_putByte_9 (ct_X4_setByte _ _ _ _ ho0 hp9) mwX4_setByte mvX4_setByte mlX4_59 cl4 ho0 rfl rfl ⟨nle, nle, nle, nle⟩ nle rfl ?_
  cases hf; exact E_vret dX4_putByte_12 rfl rfl rfl
/-! BracketHall$Page.putIn(ILBracketHall$Input;I)V -/
def f_X4_putIn_L9 : Nat → Nat → Int → Int → Int → Mem → Option (Mem)
  | 0, _, _, _, _, _ => none
  | n + 1, o0, v1, v3, v4, M =>
    if v3 ≤ v4 then
      some M
    else
      (f_X1_byteAt v4 M).bind fun p23 =>
      (f_X4_setByte o0 (w32 (v1 + v4)) p23 M).bind fun p26 =>
      lt1 (w32 (v4 + 1)) fun v4_29 =>
      f_X4_putIn_L9 n o0 v1 v3 v4_29 p26
def f_X4_putIn (o0 : Nat) (v1 : Int) (v3 : Int) (M : Mem) : Option (Mem) :=
  (f_X4_makeRoom o0 v1 v3 M).bind fun p3 =>
  f_X4_putIn_L9 4096 o0 v1 v3 0 p3
set_option maxRecDepth 20000 in
theorem rn_X4_putIn_L9 {G : Gl} : ∀ (n : Nat) (o0 : Nat) (v1 : Int) (v3 : Int) (v4 : Int) (M : Mem) (res : Mem), isO 4 o0 → f_X4_putIn_L9 n o0 v1 v3 v4 M = some res → Run G false (rmD 2 0 0) miX4_putIn (ZP G none res) 0 0 9 [some (aR o0), some (aI v1), some (aR 1), some (aI v3), some (aI v4)] [] M := by
  intro n
  induction n with
  | zero => intro o0 v1 v3 v4 M res ho0 hf; cases hf
  | succ n ih =>
    intro o0 v1 v3 v4 M res ho0 hf
    rw [f_X4_putIn_L9] at hf
    refine R_iload dX4_putIn_9 rfl ?_
    refine R_iload_n dX4_putIn_11 rfl rfl ?_
    refine R_icmp_ge dX4_putIn_12 rfl (fun h12 => ?_) (fun h12 => ?_)
    · replace hf := iposE hf h12
      cases hf; exact E_vret dX4_putIn_35 rfl rfl rfl
    · replace hf := inegE hf h12
      refine R_aload_n dX4_putIn_15 rfl rfl ?_
      refine R_iload_n dX4_putIn_16 rfl rfl ?_
      refine R_iload dX4_putIn_17 rfl ?_
      refine R_iadd dX4_putIn_19 rfl ?_
      refine R_aload_n dX4_putIn_20 rfl rfl ?_
      refine R_iload dX4_putIn_21 rfl ?_
      obtain ⟨p23, hp23, hf⟩ := bdE hf
      refine R_callV (As := [aI v4]) (st := [aI (w32 (v1 + v4)), aR o0]) dX4_putIn_23 (ct_X1_byteAt _ _  hp23) mwX1_byteAt mvX1_byteAt mlX4_62 cl1 o_1 rfl rfl ⟨nle, nle, nle, nle⟩ nle rfl ?_
      obtain ⟨p26, hp26, hf⟩ := bdE hf
      refine R_callV (As := [aI (w32 (v1 + v4)), aI p23]) (st := []) dX4_putIn_26 (ct_X4_setByte _ _ _ _ ho0 hp26) mwX4_setByte mvX4_setByte mlX4_59 cl4 ho0 rfl rfl ⟨nle, nle, nle, nle⟩ nle rfl ?_
      obtain ⟨v4_29, hv4_29, hf⟩ := ltE hf
      refine R_iinc dX4_putIn_29 rfl rfl hv4_29 (by decide) rfl ?_
      refine R_goto dX4_putIn_32 rfl ?_
      exact R_subk (ih _ _ _ _ _ _ ho0 hf) ⟨rfl, rfl, rfl, rfl, rfl, trivial⟩
set_option maxRecDepth 20000 in
theorem ct_X4_putIn {G : Gl} (o0 : Nat) (v1 : Int) (v3 : Int) (M : Mem) {res : Mem} (ho0 : isO 4 o0) (hf : f_X4_putIn o0 v1 v3 M = some res) : Ct G miX4_putIn yX4_putIn 2 [aR o0, aI v1, aR 1, aI v3] M none res := by
  refine Ct.of (L := [some (aR o0), some (aI v1), some (aR 1), some (aI v3), none]) mwX4_putIn rfl trivial nle ⟨rfl, rfl, rfl, rfl, trivial⟩ ?_
  unfold f_X4_putIn at hf
  refine R_aload_n dX4_putIn_0 rfl rfl ?_
  refine R_iload_n dX4_putIn_1 rfl rfl ?_
  refine R_iload_n dX4_putIn_2 rfl rfl ?_
  obtain ⟨p3, hp3, hf⟩ := bdE hf
  refine R_callV (As := [aI v1, aI v3]) (st := []) dX4_putIn_3 (ct_X4_makeRoom _ _ _ _ ho0 hp3) mwX4_makeRoom mvX4_makeRoom mlX4_55 cl4 ho0 rfl rfl ⟨nle, nle, nle, nle⟩ nle rfl ?_
  refine R_iconst dX4_putIn_6 (v := 0) rfl ?_
  refine R_istore dX4_putIn_7 (by decide) rfl rfl ?_
  exact R_subk (rn_X4_putIn_L9 4096 _ _ _ _ _ _ ho0 hf) ⟨rfl, rfl, rfl, rfl, rfl, trivial⟩
/-! BracketHall$Page.takeOut(II)V -/
def f_X4_takeOut_L43 : Nat → Nat → Int → Int → Int → Mem → Option (Mem)
  | 0, _, _, _, _, _ => none
  | n + 1, o0, v1, v2, v3, M =>
    if (M o0 3) ≤ v3 then
      some M
    else
      if (0 : Int) ≤ v3 ∧ v3 < 8 then
      if (M (o0 + 2) v3) ≤ v2 then
        if (M (o0 + 2) v3) ≤ v1 then
          lt1 (w32 (v3 + 1)) fun v3_93 =>
          f_X4_takeOut_L43 n o0 v1 v2 v3_93 M
        else
          lt1 (up M (o0 + 2) v3 v1) fun M92 =>
          lt1 (w32 (v3 + 1)) fun v3_93 =>
          f_X4_takeOut_L43 n o0 v1 v2 v3_93 M92
      else
        lt1 (up M (o0 + 2) v3 (w32 ((M (o0 + 2) v3) - (w32 (v2 - v1))))) fun M72 =>
        lt1 (w32 (v3 + 1)) fun v3_93 =>
        f_X4_takeOut_L43 n o0 v1 v2 v3_93 M72
      else none
def f_X4_takeOut (o0 : Nat) (v1 : Int) (v2 : Int) (M : Mem) : Option (Mem) :=
  (f_X4_hasRange o0 v1 v2 M).bind fun p3 =>
  if p3 = 0 then
    some M
  else
    if (0 : Int) ≤ v2 ∧ (0 : Int) ≤ v1 ∧ (0 : Int) ≤ (w32 ((M o0 2) - v2)) ∧ v2 + (w32 ((M o0 2) - v2)) ≤ (240 : Int) ∧ v1 + (w32 ((M o0 2) - v2)) ≤ (240 : Int) then
    lt1 (upc M (o0 + 1) v2 (o0 + 1) v1 (w32 ((M o0 2) - v2))) fun M26 =>
    lt1 (up M26 o0 2 (w32 ((M26 o0 2) - (w32 (v2 - v1))))) fun M38 =>
    f_X4_takeOut_L43 4096 o0 v1 v2 0 M38
    else none
set_option maxRecDepth 20000 in
theorem rn_X4_takeOut_L43 {G : Gl} : ∀ (n : Nat) (o0 : Nat) (v1 : Int) (v2 : Int) (v3 : Int) (M : Mem) (res : Mem), isO 4 o0 → f_X4_takeOut_L43 n o0 v1 v2 v3 M = some res → Run G false (rmD 1 0 0) miX4_takeOut (ZP G none res) 0 0 43 [some (aR o0), some (aI v1), some (aI v2), some (aI v3)] [] M := by
  intro n
  induction n with
  | zero => intro o0 v1 v2 v3 M res ho0 hf; cases hf
  | succ n ih =>
    intro o0 v1 v2 v3 M res ho0 hf
    rw [f_X4_takeOut_L43] at hf
    refine R_iload_n dX4_takeOut_43 rfl rfl ?_
    refine R_aload_n dX4_takeOut_44 rfl rfl ?_
    refine R_getI (ki := 3) dX4_takeOut_45 cl4 flX4_22 ho0 ff4_3 rfl rfl ?_
    refine R_icmp_ge dX4_takeOut_48 rfl (fun h48 => ?_) (fun h48 => ?_)
    · replace hf := iposE hf h48
      cases hf; exact E_vret dX4_takeOut_99 rfl rfl rfl
    · replace hf := inegE hf h48
      refine R_aload_n dX4_takeOut_51 rfl rfl ?_
      refine R_getR dX4_takeOut_52 cl4 flX4_15 ho0 ff4_1 (fr4_1 _) (k4_2 ho0).1 ?_
      refine R_iload_n dX4_takeOut_55 rfl rfl ?_
      obtain ⟨hg1, hf⟩ := gdE hf
      refine R_iaload dX4_takeOut_56 (k4_2 ho0) hg1.1 hg1.2 rfl ?_
      refine R_iload_n dX4_takeOut_57 rfl rfl ?_
      refine R_icmp_le dX4_takeOut_58 rfl (fun h58 => ?_) (fun h58 => ?_)
      · replace hf := iposE hf h58
        refine R_aload_n dX4_takeOut_76 rfl rfl ?_
        refine R_getR dX4_takeOut_77 cl4 flX4_15 ho0 ff4_1 (fr4_1 _) (k4_2 ho0).1 ?_
        refine R_iload_n dX4_takeOut_80 rfl rfl ?_
        refine R_iaload dX4_takeOut_81 (k4_2 ho0) hg1.1 hg1.2 rfl ?_
        refine R_iload_n dX4_takeOut_82 rfl rfl ?_
        refine R_icmp_le dX4_takeOut_83 rfl (fun h83 => ?_) (fun h83 => ?_)
        · replace hf := iposE hf h83
          obtain ⟨v3_93, hv3_93, hf⟩ := ltE hf
          refine R_iinc dX4_takeOut_93 rfl rfl hv3_93 (by decide) rfl ?_
          refine R_goto dX4_takeOut_96 rfl ?_
          exact R_subk (ih _ _ _ _ _ _ ho0 hf) ⟨rfl, rfl, rfl, rfl, trivial⟩
        · replace hf := inegE hf h83
          refine R_aload_n dX4_takeOut_86 rfl rfl ?_
          refine R_getR dX4_takeOut_87 cl4 flX4_15 ho0 ff4_1 (fr4_1 _) (k4_2 ho0).1 ?_
          refine R_iload_n dX4_takeOut_90 rfl rfl ?_
          refine R_iload_n dX4_takeOut_91 rfl rfl ?_
          obtain ⟨M92, hM92, hf⟩ := ltE hf
          refine R_iastore dX4_takeOut_92 (k4_2 ho0) hg1.1 hg1.2 hM92 ?_
          obtain ⟨v3_93, hv3_93, hf⟩ := ltE hf
          refine R_iinc dX4_takeOut_93 rfl rfl hv3_93 (by decide) rfl ?_
          refine R_goto dX4_takeOut_96 rfl ?_
          exact R_subk (ih _ _ _ _ _ _ ho0 hf) ⟨rfl, rfl, rfl, rfl, trivial⟩
      · replace hf := inegE hf h58
        refine R_aload_n dX4_takeOut_61 rfl rfl ?_
        refine R_getR dX4_takeOut_62 cl4 flX4_15 ho0 ff4_1 (fr4_1 _) (k4_2 ho0).1 ?_
        refine R_iload_n dX4_takeOut_65 rfl rfl ?_
        refine R_dup2 dX4_takeOut_66 ?_
        refine R_iaload dX4_takeOut_67 (k4_2 ho0) hg1.1 hg1.2 rfl ?_
        refine R_iload_n dX4_takeOut_68 rfl rfl ?_
        refine R_iload_n dX4_takeOut_69 rfl rfl ?_
        refine R_isub dX4_takeOut_70 rfl ?_
        refine R_isub dX4_takeOut_71 rfl ?_
        obtain ⟨M72, hM72, hf⟩ := ltE hf
        refine R_iastore dX4_takeOut_72 (k4_2 ho0) hg1.1 hg1.2 hM72 ?_
        refine R_goto dX4_takeOut_73 rfl ?_
        obtain ⟨v3_93, hv3_93, hf⟩ := ltE hf
        refine R_iinc dX4_takeOut_93 rfl rfl hv3_93 (by decide) rfl ?_
        refine R_goto dX4_takeOut_96 rfl ?_
        exact R_subk (ih _ _ _ _ _ _ ho0 hf) ⟨rfl, rfl, rfl, rfl, trivial⟩
set_option maxRecDepth 20000 in
theorem ct_X4_takeOut {G : Gl} (o0 : Nat) (v1 : Int) (v2 : Int) (M : Mem) {res : Mem} (ho0 : isO 4 o0) (hf : f_X4_takeOut o0 v1 v2 M = some res) : Ct G miX4_takeOut yX4_takeOut 1 [aR o0, aI v1, aI v2] M none res := by
  refine Ct.of (L := [some (aR o0), some (aI v1), some (aI v2), none]) mwX4_takeOut rfl trivial nle ⟨rfl, rfl, rfl, trivial⟩ ?_
  unfold f_X4_takeOut at hf
  refine R_aload_n dX4_takeOut_0 rfl rfl ?_
  refine R_iload_n dX4_takeOut_1 rfl rfl ?_
  refine R_iload_n dX4_takeOut_2 rfl rfl ?_
  obtain ⟨p3, hp3, hf⟩ := bdE hf
  refine R_callV (As := [aI v1, aI v2]) (st := []) dX4_takeOut_3 (ct_X4_hasRange _ _ _ _ ho0 hp3) mwX4_hasRange mvX4_hasRange mlX4_71 cl4 ho0 rfl rfl ⟨nle, nle, nle, nle⟩ nle rfl ?_
  refine R_if_ne dX4_takeOut_6 rfl (fun h6 => ?_) (fun h6 => ?_)
  · replace hf := inegE hf h6
    refine R_aload_n dX4_takeOut_10 rfl rfl ?_
    refine R_getR dX4_takeOut_11 cl4 flX4_9 ho0 ff4_0 (fr4_0 _) (k4_1 ho0).1 ?_
    refine R_iload_n dX4_takeOut_14 rfl rfl ?_
    refine R_aload_n dX4_takeOut_15 rfl rfl ?_
    refine R_getR dX4_takeOut_16 cl4 flX4_9 ho0 ff4_0 (fr4_0 _) (k4_1 ho0).1 ?_
    refine R_iload_n dX4_takeOut_19 rfl rfl ?_
    refine R_aload_n dX4_takeOut_20 rfl rfl ?_
    refine R_getI (ki := 2) dX4_takeOut_21 cl4 flX4_18 ho0 ff4_2 rfl rfl ?_
    refine R_iload_n dX4_takeOut_24 rfl rfl ?_
    refine R_isub dX4_takeOut_25 rfl ?_
    obtain ⟨hg2, hf⟩ := gdE hf
    obtain ⟨M26, hM26, hf⟩ := ltE hf
    refine R_copy dX4_takeOut_26 jlX4_37 jw_copy ⟨nle, nle⟩ nle (k4_1 ho0) (k4_1 ho0) hg2.1 hg2.2.1 hg2.2.2.1 hg2.2.2.2.1 hg2.2.2.2.2 hM26 ?_
    refine R_aload_n dX4_takeOut_29 rfl rfl ?_
    refine R_dupR dX4_takeOut_30 ?_
    refine R_getI (ki := 2) dX4_takeOut_31 cl4 flX4_18 ho0 ff4_2 rfl rfl ?_
    refine R_iload_n dX4_takeOut_34 rfl rfl ?_
    refine R_iload_n dX4_takeOut_35 rfl rfl ?_
    refine R_isub dX4_takeOut_36 rfl ?_
    refine R_isub dX4_takeOut_37 rfl ?_
    obtain ⟨M38, hM38, hf⟩ := ltE hf
    refine R_put (ki := 2) dX4_takeOut_38 cl4 flX4_18 ho0 (Or.inl fz4_2) rfl hM38 ?_
    refine R_iconst dX4_takeOut_41 (v := 0) rfl ?_
    refine R_istore_n dX4_takeOut_42 rfl (by decide) rfl rfl ?_
    exact R_subk (rn_X4_takeOut_L43 4096 _ _ _ _ _ _ ho0 hf) ⟨rfl, rfl, rfl, rfl, trivial⟩
  · replace hf := iposE hf h6
    cases hf; exact E_vret dX4_takeOut_9 rfl rfl rfl
/-! BracketHall$Page.placeOfMark(I)I -/
def f_X4_placeOfMark (o0 : Nat) (v1 : Int) (M : Mem) : Option (Int) :=
  if v1 < 0 then
    some (-1)
  else
    if (M o0 3) ≤ v1 then
      some (-1)
    else
      if (0 : Int) ≤ v1 ∧ v1 < 8 then
      some (M (o0 + 2) v1)
      else none
set_option maxRecDepth 20000 in
theorem ct_X4_placeOfMark {G : Gl} (o0 : Nat) (v1 : Int) (M : Mem) {res : Int} (ho0 : isO 4 o0) (hf : f_X4_placeOfMark o0 v1 M = some res) : Ct G miX4_placeOfMark yX4_placeOfMark 0 [aR o0, aI v1] M (some (aI res)) M := by
  refine Ct.of (L := [some (aR o0), some (aI v1)]) mwX4_placeOfMark rfl trivial nle ⟨rfl, rfl, trivial⟩ ?_
  unfold f_X4_placeOfMark at hf
  refine R_iload_n dX4_placeOfMark_0 rfl rfl ?_
  refine R_if_lt dX4_placeOfMark_1 rfl (fun h1 => ?_) (fun h1 => ?_)
  · replace hf := iposE hf h1
    refine R_iconst dX4_placeOfMark_21 (v := (-1)) rfl ?_
    cases hf; exact E_iret dX4_placeOfMark_22 rfl rfl rfl
  · replace hf := inegE hf h1
    refine R_iload_n dX4_placeOfMark_4 rfl rfl ?_
    refine R_aload_n dX4_placeOfMark_5 rfl rfl ?_
    refine R_getI (ki := 3) dX4_placeOfMark_6 cl4 flX4_22 ho0 ff4_3 rfl rfl ?_
    refine R_icmp_ge dX4_placeOfMark_9 rfl (fun h9 => ?_) (fun h9 => ?_)
    · replace hf := iposE hf h9
      refine R_iconst dX4_placeOfMark_21 (v := (-1)) rfl ?_
      cases hf; exact E_iret dX4_placeOfMark_22 rfl rfl rfl
    · replace hf := inegE hf h9
      refine R_aload_n dX4_placeOfMark_12 rfl rfl ?_
      refine R_getR dX4_placeOfMark_13 cl4 flX4_15 ho0 ff4_1 (fr4_1 _) (k4_2 ho0).1 ?_
      refine R_iload_n dX4_placeOfMark_16 rfl rfl ?_
      obtain ⟨hg1, hf⟩ := gdE hf
      refine R_iaload dX4_placeOfMark_17 (k4_2 ho0) hg1.1 hg1.2 rfl ?_
      refine R_goto dX4_placeOfMark_18 rfl ?_
      cases hf; exact E_iret dX4_placeOfMark_22 rfl rfl rfl
/-! BracketHall$Page.addMark(I)V -/
def f_X4_addMark (o0 : Nat) (v1 : Int) (M : Mem) : Option (Mem) :=
  if 8 ≤ (M o0 3) then
    some M
  else
    if (0 : Int) ≤ M o0 3 ∧ M o0 3 < 8 then
    lt1 (up M (o0 + 2) (M o0 3) v1) fun M18 =>
    lt1 (up M18 o0 3 (w32 ((M18 o0 3) + 1))) fun M26 =>
    some M26
    else none
set_option maxRecDepth 20000 in
theorem ct_X4_addMark {G : Gl} (o0 : Nat) (v1 : Int) (M : Mem) {res : Mem} (ho0 : isO 4 o0) (hf : f_X4_addMark o0 v1 M = some res) : Ct G miX4_addMark yX4_addMark 0 [aR o0, aI v1] M none res := by
  refine Ct.of (L := [some (aR o0), some (aI v1)]) mwX4_addMark rfl trivial nle ⟨rfl, rfl, trivial⟩ ?_
  unfold f_X4_addMark at hf
  refine R_aload_n dX4_addMark_0 rfl rfl ?_
  refine R_getI (ki := 3) dX4_addMark_1 cl4 flX4_22 ho0 ff4_3 rfl rfl ?_
  refine R_bipush dX4_addMark_4 (v := 8) rfl ?_
  refine R_icmp_ge dX4_addMark_6 rfl (fun h6 => ?_) (fun h6 => ?_)
  · replace hf := iposE hf h6
    cases hf; exact E_vret dX4_addMark_29 rfl rfl rfl
  · replace hf := inegE hf h6
    refine R_aload_n dX4_addMark_9 rfl rfl ?_
    refine R_getR dX4_addMark_10 cl4 flX4_15 ho0 ff4_1 (fr4_1 _) (k4_2 ho0).1 ?_
    refine R_aload_n dX4_addMark_13 rfl rfl ?_
    refine R_getI (ki := 3) dX4_addMark_14 cl4 flX4_22 ho0 ff4_3 rfl rfl ?_
    refine R_iload_n dX4_addMark_17 rfl rfl ?_
    obtain ⟨hg1, hf⟩ := gdE hf
    obtain ⟨M18, hM18, hf⟩ := ltE hf
    refine R_iastore dX4_addMark_18 (k4_2 ho0) hg1.1 hg1.2 hM18 ?_
    refine R_aload_n dX4_addMark_19 rfl rfl ?_
    refine R_dupR dX4_addMark_20 ?_
    refine R_getI (ki := 3) dX4_addMark_21 cl4 flX4_22 ho0 ff4_3 rfl rfl ?_
    refine R_iconst dX4_addMark_24 (v := 1) rfl ?_
    refine R_iadd dX4_addMark_25 rfl ?_
    obtain ⟨M26, hM26, hf⟩ := ltE hf
    refine R_put (ki := 3) dX4_addMark_26 cl4 flX4_22 ho0 (Or.inl fz4_3) rfl hM26 ?_
    cases hf; exact E_vret dX4_addMark_29 rfl rfl rfl
/-! BracketHall$Page.removeMark(I)V -/
def f_X4_removeMark (o0 : Nat) (v1 : Int) (M : Mem) : Option (Mem) :=
  if v1 < 0 then
    some M
  else
    if v1 < (M o0 3) then
      if (0 : Int) ≤ (w32 (v1 + 1)) ∧ (0 : Int) ≤ v1 ∧ (0 : Int) ≤ (w32 ((w32 ((M o0 3) - v1)) - 1)) ∧ (w32 (v1 + 1)) + (w32 ((w32 ((M o0 3) - v1)) - 1)) ≤ (8 : Int) ∧ v1 + (w32 ((w32 ((M o0 3) - v1)) - 1)) ≤ (8 : Int) then
      lt1 (upc M (o0 + 2) (w32 (v1 + 1)) (o0 + 2) v1 (w32 ((w32 ((M o0 3) - v1)) - 1))) fun M33 =>
      lt1 (up M33 o0 3 (w32 ((M33 o0 3) - 1))) fun M43 =>
      some M43
      else none
    else
      some M
set_option maxRecDepth 20000 in
theorem ct_X4_removeMark {G : Gl} (o0 : Nat) (v1 : Int) (M : Mem) {res : Mem} (ho0 : isO 4 o0) (hf : f_X4_removeMark o0 v1 M = some res) : Ct G miX4_removeMark yX4_removeMark 1 [aR o0, aI v1] M none res := by
  refine Ct.of (L := [some (aR o0), some (aI v1)]) mwX4_removeMark rfl trivial nle ⟨rfl, rfl, trivial⟩ ?_
  unfold f_X4_removeMark at hf
  refine R_iload_n dX4_removeMark_0 rfl rfl ?_
  refine R_if_lt dX4_removeMark_1 rfl (fun h1 => ?_) (fun h1 => ?_)
  · replace hf := iposE hf h1
    cases hf; exact E_vret dX4_removeMark_12 rfl rfl rfl
  · replace hf := inegE hf h1
    refine R_iload_n dX4_removeMark_4 rfl rfl ?_
    refine R_aload_n dX4_removeMark_5 rfl rfl ?_
    refine R_getI (ki := 3) dX4_removeMark_6 cl4 flX4_22 ho0 ff4_3 rfl rfl ?_
    refine R_icmp_lt dX4_removeMark_9 rfl (fun h9 => ?_) (fun h9 => ?_)
    · replace hf := iposE hf h9
      refine R_aload_n dX4_removeMark_13 rfl rfl ?_
      refine R_getR dX4_removeMark_14 cl4 flX4_15 ho0 ff4_1 (fr4_1 _) (k4_2 ho0).1 ?_
      refine R_iload_n dX4_removeMark_17 rfl rfl ?_
      refine R_iconst dX4_removeMark_18 (v := 1) rfl ?_
      refine R_iadd dX4_removeMark_19 rfl ?_
      refine R_aload_n dX4_removeMark_20 rfl rfl ?_
      refine R_getR dX4_removeMark_21 cl4 flX4_15 ho0 ff4_1 (fr4_1 _) (k4_2 ho0).1 ?_
      refine R_iload_n dX4_removeMark_24 rfl rfl ?_
      refine R_aload_n dX4_removeMark_25 rfl rfl ?_
      refine R_getI (ki := 3) dX4_removeMark_26 cl4 flX4_22 ho0 ff4_3 rfl rfl ?_
      refine R_iload_n dX4_removeMark_29 rfl rfl ?_
      refine R_isub dX4_removeMark_30 rfl ?_
      refine R_iconst dX4_removeMark_31 (v := 1) rfl ?_
      refine R_isub dX4_removeMark_32 rfl ?_
      obtain ⟨hg1, hf⟩ := gdE hf
      obtain ⟨M33, hM33, hf⟩ := ltE hf
      refine R_copy dX4_removeMark_33 jlX4_37 jw_copy ⟨nle, nle⟩ nle (k4_2 ho0) (k4_2 ho0) hg1.1 hg1.2.1 hg1.2.2.1 hg1.2.2.2.1 hg1.2.2.2.2 hM33 ?_
      refine R_aload_n dX4_removeMark_36 rfl rfl ?_
      refine R_dupR dX4_removeMark_37 ?_
      refine R_getI (ki := 3) dX4_removeMark_38 cl4 flX4_22 ho0 ff4_3 rfl rfl ?_
      refine R_iconst dX4_removeMark_41 (v := 1) rfl ?_
      refine R_isub dX4_removeMark_42 rfl ?_
      obtain ⟨M43, hM43, hf⟩ := ltE hf
      refine R_put (ki := 3) dX4_removeMark_43 cl4 flX4_22 ho0 (Or.inl fz4_3) rfl hM43 ?_
      cases hf; exact E_vret dX4_removeMark_46 rfl rfl rfl
    · replace hf := inegE hf h9
      cases hf; exact E_vret dX4_removeMark_12 rfl rfl rfl
/-! BracketHall$Signs.roleOf(I)I -/
def f_X7_roleOf (o0 : Nat) (v1 : Int) (M : Mem) : Option (Int) :=
  if v1 < 0 then
    some (-1)
  else
    if 126 < v1 then
      some (-1)
    else
      if (0 : Int) ≤ v1 ∧ v1 < 127 then
      some (M (o0 + 1) v1)
      else none
set_option maxRecDepth 20000 in
theorem ct_X7_roleOf {G : Gl} (o0 : Nat) (v1 : Int) (M : Mem) {res : Int} (ho0 : isO 7 o0) (hf : f_X7_roleOf o0 v1 M = some res) : Ct G miX7_roleOf yX7_roleOf 0 [aR o0, aI v1] M (some (aI res)) M := by
  refine Ct.of (L := [some (aR o0), some (aI v1)]) mwX7_roleOf rfl trivial nle ⟨rfl, rfl, trivial⟩ ?_
  unfold f_X7_roleOf at hf
  refine R_iload_n dX7_roleOf_0 rfl rfl ?_
  refine R_if_lt dX7_roleOf_1 rfl (fun h1 => ?_) (fun h1 => ?_)
  · replace hf := iposE hf h1
    refine R_iconst dX7_roleOf_19 (v := (-1)) rfl ?_
    cases hf; exact E_iret dX7_roleOf_20 rfl rfl rfl
  · replace hf := inegE hf h1
    refine R_iload_n dX7_roleOf_4 rfl rfl ?_
    refine R_bipush dX7_roleOf_5 (v := 126) rfl ?_
    refine R_icmp_gt dX7_roleOf_7 rfl (fun h7 => ?_) (fun h7 => ?_)
    · replace hf := iposE hf h7
      refine R_iconst dX7_roleOf_19 (v := (-1)) rfl ?_
      cases hf; exact E_iret dX7_roleOf_20 rfl rfl rfl
    · replace hf := inegE hf h7
      refine R_aload_n dX7_roleOf_10 rfl rfl ?_
      refine R_getR dX7_roleOf_11 cl7 flX7_9 ho0 ff7_0 (fr7_0 _) (k7_1 ho0).1 ?_
      refine R_iload_n dX7_roleOf_14 rfl rfl ?_
      obtain ⟨hg1, hf⟩ := gdE hf
      refine R_iaload dX7_roleOf_15 (k7_1 ho0) hg1.1 hg1.2 rfl ?_
      refine R_goto dX7_roleOf_16 rfl ?_
      cases hf; exact E_iret dX7_roleOf_20 rfl rfl rfl
/-! BracketHall$Reading.hide(I)V -/
def f_X5_hide (o0 : Nat) (v1 : Int) (M : Mem) : Option (Mem) :=
  if v1 < 0 then
    some M
  else
    if 240 ≤ v1 then
      some M
    else
      if (0 : Int) ≤ v1 ∧ v1 < 240 then
      lt1 (up M (o0 + 1) v1 (M o0 10)) fun M20 =>
      lt1 (up M20 o0 8 (w32 ((M20 o0 8) + 1))) fun M28 =>
      some M28
      else none
set_option maxRecDepth 20000 in
theorem ct_X5_hide {G : Gl} (o0 : Nat) (v1 : Int) (M : Mem) {res : Mem} (ho0 : isO 5 o0) (hf : f_X5_hide o0 v1 M = some res) : Ct G miX5_hide yX5_hide 0 [aR o0, aI v1] M none res := by
  refine Ct.of (L := [some (aR o0), some (aI v1)]) mwX5_hide rfl trivial nle ⟨rfl, rfl, trivial⟩ ?_
  unfold f_X5_hide at hf
  refine R_iload_n dX5_hide_0 rfl rfl ?_
  refine R_if_lt dX5_hide_1 rfl (fun h1 => ?_) (fun h1 => ?_)
  · replace hf := iposE hf h1
    cases hf; exact E_vret dX5_hide_31 rfl rfl rfl
  · replace hf := inegE hf h1
    refine R_iload_n dX5_hide_4 rfl rfl ?_
    refine R_sipush dX5_hide_5 (v := 240) rfl ?_
    refine R_icmp_ge dX5_hide_8 rfl (fun h8 => ?_) (fun h8 => ?_)
    · replace hf := iposE hf h8
      cases hf; exact E_vret dX5_hide_31 rfl rfl rfl
    · replace hf := inegE hf h8
      refine R_aload_n dX5_hide_11 rfl rfl ?_
      refine R_getR dX5_hide_12 cl5 flX5_9 ho0 ff5_0 (fr5_0 _) (k5_1 ho0).1 ?_
      refine R_iload_n dX5_hide_15 rfl rfl ?_
      refine R_aload_n dX5_hide_16 rfl rfl ?_
      refine R_getI (ki := 10) dX5_hide_17 cl5 flX5_43 ho0 ff5_10 rfl rfl ?_
      obtain ⟨hg1, hf⟩ := gdE hf
      obtain ⟨M20, hM20, hf⟩ := ltE hf
      refine R_iastore dX5_hide_20 (k5_1 ho0) hg1.1 hg1.2 hM20 ?_
      refine R_aload_n dX5_hide_21 rfl rfl ?_
      refine R_dupR dX5_hide_22 ?_
      refine R_getI (ki := 8) dX5_hide_23 cl5 flX5_37 ho0 ff5_8 rfl rfl ?_
      refine R_iconst dX5_hide_26 (v := 1) rfl ?_
      refine R_iadd dX5_hide_27 rfl ?_
      obtain ⟨M28, hM28, hf⟩ := ltE hf
      refine R_put (ki := 8) dX5_hide_28 cl5 flX5_37 ho0 (Or.inl fz5_8) rfl hM28 ?_
      cases hf; exact E_vret dX5_hide_31 rfl rfl rfl
/-! BracketHall$Reading.readInside(I)V -/
def f_X5_readInside (o0 : Nat) (v1 : Int) (M : Mem) : Option (Mem) :=
  if (M o0 10) = 1 then
    if (M o0 11) = 0 then
      if v1 = 9 then
        lt1 (up M o0 11 1) fun M32 =>
        some M32
      else
        if v1 = 8 then
          lt1 (up M o0 10 0) fun M46 =>
          some M46
        else
          some M
    else
      lt1 (up M o0 11 0) fun M18 =>
      some M18
  else
    some M
set_option maxRecDepth 20000 in
theorem ct_X5_readInside {G : Gl} (o0 : Nat) (v1 : Int) (M : Mem) {res : Mem} (ho0 : isO 5 o0) (hf : f_X5_readInside o0 v1 M = some res) : Ct G miX5_readInside yX5_readInside 0 [aR o0, aI v1] M none res := by
  refine Ct.of (L := [some (aR o0), some (aI v1)]) mwX5_readInside rfl trivial nle ⟨rfl, rfl, trivial⟩ ?_
  unfold f_X5_readInside at hf
  refine R_aload_n dX5_readInside_0 rfl rfl ?_
  refine R_getI (ki := 10) dX5_readInside_1 cl5 flX5_43 ho0 ff5_10 rfl rfl ?_
  refine R_iconst dX5_readInside_4 (v := 1) rfl ?_
  refine R_icmp_eq dX5_readInside_5 rfl (fun h5 => ?_) (fun h5 => ?_)
  · replace hf := iposE hf h5
    refine R_aload_n dX5_readInside_9 rfl rfl ?_
    refine R_getI (ki := 11) dX5_readInside_10 cl5 flX5_46 ho0 ff5_11 rfl rfl ?_
    refine R_if_eq dX5_readInside_13 rfl (fun h13 => ?_) (fun h13 => ?_)
    · replace hf := iposE hf h13
      refine R_iload_n dX5_readInside_24 rfl rfl ?_
      refine R_bipush dX5_readInside_25 (v := 9) rfl ?_
      refine R_icmp_ne dX5_readInside_27 rfl (fun h27 => ?_) (fun h27 => ?_)
      · replace hf := inegE hf h27
        refine R_iload_n dX5_readInside_38 rfl rfl ?_
        refine R_bipush dX5_readInside_39 (v := 8) rfl ?_
        refine R_icmp_ne dX5_readInside_41 rfl (fun h41 => ?_) (fun h41 => ?_)
        · replace hf := inegE hf h41
          cases hf; exact E_vret dX5_readInside_49 rfl rfl rfl
        · replace hf := iposE hf h41
          refine R_aload_n dX5_readInside_44 rfl rfl ?_
          refine R_iconst dX5_readInside_45 (v := 0) rfl ?_
          obtain ⟨M46, hM46, hf⟩ := ltE hf
          refine R_put (ki := 10) dX5_readInside_46 cl5 flX5_43 ho0 (Or.inl fz5_10) rfl hM46 ?_
          cases hf; exact E_vret dX5_readInside_49 rfl rfl rfl
      · replace hf := iposE hf h27
        refine R_aload_n dX5_readInside_30 rfl rfl ?_
        refine R_iconst dX5_readInside_31 (v := 1) rfl ?_
        obtain ⟨M32, hM32, hf⟩ := ltE hf
        refine R_put (ki := 11) dX5_readInside_32 cl5 flX5_46 ho0 (Or.inr ⟨fz5_11, by decide⟩) rfl hM32 ?_
        refine R_goto dX5_readInside_35 rfl ?_
        cases hf; exact E_vret dX5_readInside_49 rfl rfl rfl
    · replace hf := inegE hf h13
      refine R_aload_n dX5_readInside_16 rfl rfl ?_
      refine R_iconst dX5_readInside_17 (v := 0) rfl ?_
      obtain ⟨M18, hM18, hf⟩ := ltE hf
      refine R_put (ki := 11) dX5_readInside_18 cl5 flX5_46 ho0 (Or.inr ⟨fz5_11, by decide⟩) rfl hM18 ?_
      refine R_goto dX5_readInside_21 rfl ?_
      cases hf; exact E_vret dX5_readInside_49 rfl rfl rfl
  · replace hf := inegE hf h5
    cases hf; exact E_vret dX5_readInside_8 rfl rfl rfl
/-! BracketHall$Reading.readByte(IILBracketHall$Signs;)V -/
def f_X5_readByte_K64 (o0 : Nat) (v1 : Int) (v4 : Int) (M : Mem) : Option (Mem) :=
  if v4 = 8 then
    lt1 (up M o0 10 1) fun M77 =>
    (f_X5_hide o0 v1 M77).bind fun p82 =>
    some p82
  else
    lt1 (up M o0 10 2) fun M77 =>
    (f_X5_hide o0 v1 M77).bind fun p82 =>
    some p82
def f_X5_readByte_K29 (o0 : Nat) (v1 : Int) (v4 : Int) (M : Mem) : Option (Mem) :=
  if (M o0 10) = 0 then
    if v4 = 8 then
      f_X5_readByte_K64 o0 v1 v4 M
    else
      if v4 = 10 then
        f_X5_readByte_K64 o0 v1 v4 M
      else
        if v4 = (-1) then
          some M
        else
          if 8 ≤ v4 then
            some M
          else
            if (0 : Int) ≤ v1 ∧ v1 < 240 then
            lt1 (up M (o0 + 2) v1 v4) fun M108 =>
            lt1 (up M108 o0 6 (w32 ((M108 o0 6) + 1))) fun M116 =>
            some M116
            else none
  else
    (f_X5_hide o0 v1 M).bind fun p38 =>
    (f_X5_readInside o0 v4 p38).bind fun p44 =>
    some p44
def f_X5_readByte (o0 : Nat) (v1 : Int) (v2 : Int) (o3 : Nat) (M : Mem) : Option (Mem) :=
  (f_X7_roleOf o3 v2 M).bind fun p2 =>
  if (M o0 10) = 2 then
    if v2 = 10 then
      lt1 (up M o0 10 0) fun M23 =>
      some M23
    else
      f_X5_readByte_K29 o0 v1 p2 M
  else
    f_X5_readByte_K29 o0 v1 p2 M
set_option maxRecDepth 20000 in
theorem rn_X5_readByte_K64 {G : Gl} (o0 : Nat) (v1 : Int) (v4 : Int) (M : Mem) (res : Mem) (ho0 : isO 5 o0) (hf : f_X5_readByte_K64 o0 v1 v4 M = some res) : Run G false (rmD 1 0 0) miX5_readByte (ZP G none res) 0 0 64 [some (aR o0), some (aI v1), none, none, some (aI v4)] [] M := by
  unfold f_X5_readByte_K64 at hf
  refine R_aload_n dX5_readByte_64 rfl rfl ?_
  refine R_iload dX5_readByte_65 rfl ?_
  refine R_bipush dX5_readByte_67 (v := 8) rfl ?_
  refine R_icmp_ne dX5_readByte_69 rfl (fun h69 => ?_) (fun h69 => ?_)
  · replace hf := inegE hf h69
    refine R_iconst dX5_readByte_76 (v := 2) rfl ?_
    obtain ⟨M77, hM77, hf⟩ := ltE hf
    refine R_put (ki := 10) dX5_readByte_77 cl5 flX5_43 ho0 (Or.inl fz5_10) rfl hM77 ?_
    refine R_aload_n dX5_readByte_80 rfl rfl ?_
    refine R_iload_n dX5_readByte_81 rfl rfl ?_
    obtain ⟨p82, hp82, hf⟩ := bdE hf
    refine R_callV (As := [aI v1]) (st := []) dX5_readByte_82 (ct_X5_hide _ _ _ ho0 hp82) mwX5_hide mvX5_hide mlX5_72 cl5 ho0 rfl rfl ⟨nle, nle, nle, nle⟩ nle rfl ?_
    refine R_goto dX5_readByte_85 rfl ?_
    cases hf; exact E_vret dX5_readByte_119 rfl rfl rfl
  · replace hf := iposE hf h69
    refine R_iconst dX5_readByte_72 (v := 1) rfl ?_
    refine R_goto dX5_readByte_73 rfl ?_
    obtain ⟨M77, hM77, hf⟩ := ltE hf
    refine R_put (ki := 10) dX5_readByte_77 cl5 flX5_43 ho0 (Or.inl fz5_10) rfl hM77 ?_
    refine R_aload_n dX5_readByte_80 rfl rfl ?_
    refine R_iload_n dX5_readByte_81 rfl rfl ?_
    obtain ⟨p82, hp82, hf⟩ := bdE hf
    refine R_callV (As := [aI v1]) (st := []) dX5_readByte_82 (ct_X5_hide _ _ _ ho0 hp82) mwX5_hide mvX5_hide mlX5_72 cl5 ho0 rfl rfl ⟨nle, nle, nle, nle⟩ nle rfl ?_
    refine R_goto dX5_readByte_85 rfl ?_
    cases hf; exact E_vret dX5_readByte_119 rfl rfl rfl
set_option maxRecDepth 20000 in
theorem rn_X5_readByte_K29 {G : Gl} (o0 : Nat) (v1 : Int) (v4 : Int) (M : Mem) (res : Mem) (ho0 : isO 5 o0) (hf : f_X5_readByte_K29 o0 v1 v4 M = some res) : Run G false (rmD 1 0 0) miX5_readByte (ZP G none res) 0 0 29 [some (aR o0), some (aI v1), none, none, some (aI v4)] [] M := by
  unfold f_X5_readByte_K29 at hf
  refine R_aload_n dX5_readByte_29 rfl rfl ?_
  refine R_getI (ki := 10) dX5_readByte_30 cl5 flX5_43 ho0 ff5_10 rfl rfl ?_
  refine R_if_eq dX5_readByte_33 rfl (fun h33 => ?_) (fun h33 => ?_)
  · replace hf := iposE hf h33
    refine R_iload dX5_readByte_50 rfl ?_
    refine R_bipush dX5_readByte_52 (v := 8) rfl ?_
    refine R_icmp_eq dX5_readByte_54 rfl (fun h54 => ?_) (fun h54 => ?_)
    · replace hf := iposE hf h54
      exact R_subk (rn_X5_readByte_K64 _ _ _ _ _ ho0 hf) ⟨rfl, rfl, rfl, trivial⟩
    · replace hf := inegE hf h54
      refine R_iload dX5_readByte_57 rfl ?_
      refine R_bipush dX5_readByte_59 (v := 10) rfl ?_
      refine R_icmp_ne dX5_readByte_61 rfl (fun h61 => ?_) (fun h61 => ?_)
      · replace hf := inegE hf h61
        refine R_iload dX5_readByte_88 rfl ?_
        refine R_iconst dX5_readByte_90 (v := (-1)) rfl ?_
        refine R_icmp_eq dX5_readByte_91 rfl (fun h91 => ?_) (fun h91 => ?_)
        · replace hf := iposE hf h91
          cases hf; exact E_vret dX5_readByte_119 rfl rfl rfl
        · replace hf := inegE hf h91
          refine R_iload dX5_readByte_94 rfl ?_
          refine R_bipush dX5_readByte_96 (v := 8) rfl ?_
          refine R_icmp_ge dX5_readByte_98 rfl (fun h98 => ?_) (fun h98 => ?_)
          · replace hf := iposE hf h98
            cases hf; exact E_vret dX5_readByte_119 rfl rfl rfl
          · replace hf := inegE hf h98
            refine R_aload_n dX5_readByte_101 rfl rfl ?_
            refine R_getR dX5_readByte_102 cl5 flX5_15 ho0 ff5_1 (fr5_1 _) (k5_2 ho0).1 ?_
            refine R_iload_n dX5_readByte_105 rfl rfl ?_
            refine R_iload dX5_readByte_106 rfl ?_
            obtain ⟨hg1, hf⟩ := gdE hf
            obtain ⟨M108, hM108, hf⟩ := ltE hf
            refine R_iastore dX5_readByte_108 (k5_2 ho0) hg1.1 hg1.2 hM108 ?_
            refine R_aload_n dX5_readByte_109 rfl rfl ?_
            refine R_dupR dX5_readByte_110 ?_
            refine R_getI (ki := 6) dX5_readByte_111 cl5 flX5_31 ho0 ff5_6 rfl rfl ?_
            refine R_iconst dX5_readByte_114 (v := 1) rfl ?_
            refine R_iadd dX5_readByte_115 rfl ?_
            obtain ⟨M116, hM116, hf⟩ := ltE hf
            refine R_put (ki := 6) dX5_readByte_116 cl5 flX5_31 ho0 (Or.inl fz5_6) rfl hM116 ?_
            cases hf; exact E_vret dX5_readByte_119 rfl rfl rfl
      · replace hf := iposE hf h61
        exact R_subk (rn_X5_readByte_K64 _ _ _ _ _ ho0 hf) ⟨rfl, rfl, rfl, trivial⟩
  · replace hf := inegE hf h33
    refine R_aload_n dX5_readByte_36 rfl rfl ?_
    refine R_iload_n dX5_readByte_37 rfl rfl ?_
    obtain ⟨p38, hp38, hf⟩ := bdE hf
    refine R_callV (As := [aI v1]) (st := []) dX5_readByte_38 (ct_X5_hide _ _ _ ho0 hp38) mwX5_hide mvX5_hide mlX5_72 cl5 ho0 rfl rfl ⟨nle, nle, nle, nle⟩ nle rfl ?_
    refine R_aload_n dX5_readByte_41 rfl rfl ?_
    refine R_iload dX5_readByte_42 rfl ?_
    obtain ⟨p44, hp44, hf⟩ := bdE hf
    refine R_callV (As := [aI v4]) (st := []) dX5_readByte_44 (ct_X5_readInside _ _ _ ho0 hp44) mwX5_readInside mvX5_readInside mlX5_76 cl5 ho0 rfl rfl ⟨nle, nle, nle, nle⟩ nle rfl ?_
    refine R_goto dX5_readByte_47 rfl ?_
    cases hf; exact E_vret dX5_readByte_119 rfl rfl rfl
set_option maxRecDepth 20000 in
theorem ct_X5_readByte {G : Gl} (o0 : Nat) (v1 : Int) (v2 : Int) (o3 : Nat) (M : Mem) {res : Mem} (ho0 : isO 5 o0) (ho3 : isO 7 o3) (hf : f_X5_readByte o0 v1 v2 o3 M = some res) : Ct G miX5_readByte yX5_readByte 1 [aR o0, aI v1, aI v2, aR o3] M none res := by
  refine Ct.of (L := [some (aR o0), some (aI v1), some (aI v2), some (aR o3), none]) mwX5_readByte rfl trivial nle ⟨rfl, rfl, rfl, rfl, trivial⟩ ?_
  unfold f_X5_readByte at hf
  refine R_aload_n dX5_readByte_0 rfl rfl ?_
  refine R_iload_n dX5_readByte_1 rfl rfl ?_
  obtain ⟨p2, hp2, hf⟩ := bdE hf
  refine R_callV (As := [aI v2]) (st := []) dX5_readByte_2 (ct_X7_roleOf _ _ _ ho3 hp2) mwX7_roleOf mvX7_roleOf mlX5_67 cl7 ho3 rfl rfl ⟨nle, nle, nle, nle⟩ nle rfl ?_
  refine R_istore dX5_readByte_5 (by decide) rfl rfl ?_
  refine R_aload_n dX5_readByte_7 rfl rfl ?_
  refine R_getI (ki := 10) dX5_readByte_8 cl5 flX5_43 ho0 ff5_10 rfl rfl ?_
  refine R_iconst dX5_readByte_11 (v := 2) rfl ?_
  refine R_icmp_ne dX5_readByte_12 rfl (fun h12 => ?_) (fun h12 => ?_)
  · replace hf := inegE hf h12
    exact R_subk (rn_X5_readByte_K29 _ _ _ _ _ ho0 hf) ⟨rfl, rfl, rfl, trivial⟩
  · replace hf := iposE hf h12
    refine R_iload_n dX5_readByte_15 rfl rfl ?_
    refine R_bipush dX5_readByte_16 (v := 10) rfl ?_
    refine R_icmp_ne dX5_readByte_18 rfl (fun h18 => ?_) (fun h18 => ?_)
    · replace hf := inegE hf h18
      exact R_subk (rn_X5_readByte_K29 _ _ _ _ _ ho0 hf) ⟨rfl, rfl, rfl, trivial⟩
    · replace hf := iposE hf h18
      refine R_aload_n dX5_readByte_21 rfl rfl ?_
      refine R_iconst dX5_readByte_22 (v := 0) rfl ?_
      obtain ⟨M23, hM23, hf⟩ := ltE hf
      refine R_put (ki := 10) dX5_readByte_23 cl5 flX5_43 ho0 (Or.inl fz5_10) rfl hM23 ?_
      refine R_goto dX5_readByte_26 rfl ?_
      cases hf; exact E_vret dX5_readByte_119 rfl rfl rfl
/-! BracketHall$Reading.read(LBracketHall$Page;LBracketHall$Signs;I)V -/
def f_X5_read_L37 : Nat → Nat → Nat → Nat → Int → Int → Mem → Option (Mem)
  | 0, _, _, _, _, _, _ => none
  | n + 1, o0, o1, o2, v3, v4, M =>
    if (M o0 5) ≤ v4 then
      some M
    else
      if (0 : Int) ≤ v4 ∧ v4 < 240 then
      lt1 (up M (o0 + 1) v4 0) fun M53 =>
      lt1 (up M53 (o0 + 2) v4 (-1)) fun M61 =>
      if v4 = v3 then
        lt1 (w32 (v4 + 1)) fun v4_81 =>
        f_X5_read_L37 n o0 o1 o2 v3 v4_81 M61
      else
        (f_X4_byteAt o1 v4 M61).bind fun p74 =>
        (f_X5_readByte o0 v4 p74 o2 M61).bind fun p78 =>
        lt1 (w32 (v4 + 1)) fun v4_81 =>
        f_X5_read_L37 n o0 o1 o2 v3 v4_81 p78
      else none
def f_X5_read (o0 : Nat) (o1 : Nat) (o2 : Nat) (v3 : Int) (M : Mem) : Option (Mem) :=
  lt1 (if 240 < (M o1 2) then 240 else M o1 2) fun x8 =>
  lt1 (up M o0 5 x8) fun M11 =>
  lt1 (up M11 o0 6 0) fun M16 =>
  lt1 (up M16 o0 8 0) fun M21 =>
  lt1 (up M21 o0 10 0) fun M26 =>
  lt1 (up M26 o0 11 0) fun M31 =>
  f_X5_read_L37 4096 o0 o1 o2 v3 0 M31
set_option maxRecDepth 20000 in
theorem rn_X5_read_L37 {G : Gl} : ∀ (n : Nat) (o0 : Nat) (o1 : Nat) (o2 : Nat) (v3 : Int) (v4 : Int) (M : Mem) (res : Mem), isO 5 o0 → isO 4 o1 → isO 7 o2 → f_X5_read_L37 n o0 o1 o2 v3 v4 M = some res → Run G false (rmD 2 0 0) miX5_read (ZP G none res) 0 0 37 [some (aR o0), some (aR o1), some (aR o2), some (aI v3), some (aI v4)] [] M := by
  intro n
  induction n with
  | zero => intro o0 o1 o2 v3 v4 M res ho0 ho1 ho2 hf; cases hf
  | succ n ih =>
    intro o0 o1 o2 v3 v4 M res ho0 ho1 ho2 hf
    rw [f_X5_read_L37] at hf
    refine R_iload dX5_read_37 rfl ?_
    refine R_aload_n dX5_read_39 rfl rfl ?_
    refine R_getI (ki := 5) dX5_read_40 cl5 flX5_27 ho0 ff5_5 rfl rfl ?_
    refine R_icmp_ge dX5_read_43 rfl (fun h43 => ?_) (fun h43 => ?_)
    · replace hf := iposE hf h43
      cases hf; exact E_vret dX5_read_87 rfl rfl rfl
    · replace hf := inegE hf h43
      refine R_aload_n dX5_read_46 rfl rfl ?_
      refine R_getR dX5_read_47 cl5 flX5_9 ho0 ff5_0 (fr5_0 _) (k5_1 ho0).1 ?_
      refine R_iload dX5_read_50 rfl ?_
      refine R_iconst dX5_read_52 (v := 0) rfl ?_
      obtain ⟨hg1, hf⟩ := gdE hf
      obtain ⟨M53, hM53, hf⟩ := ltE hf
      refine R_iastore dX5_read_53 (k5_1 ho0) hg1.1 hg1.2 hM53 ?_
      refine R_aload_n dX5_read_54 rfl rfl ?_
      refine R_getR dX5_read_55 cl5 flX5_15 ho0 ff5_1 (fr5_1 _) (k5_2 ho0).1 ?_
      refine R_iload dX5_read_58 rfl ?_
      refine R_iconst dX5_read_60 (v := (-1)) rfl ?_
      obtain ⟨M61, hM61, hf⟩ := ltE hf
      refine R_iastore dX5_read_61 (k5_2 ho0) hg1.1 hg1.2 hM61 ?_
      refine R_iload dX5_read_62 rfl ?_
      refine R_iload_n dX5_read_64 rfl rfl ?_
      refine R_icmp_eq dX5_read_65 rfl (fun h65 => ?_) (fun h65 => ?_)
      · replace hf := iposE hf h65
        obtain ⟨v4_81, hv4_81, hf⟩ := ltE hf
        refine R_iinc dX5_read_81 rfl rfl hv4_81 (by decide) rfl ?_
        refine R_goto dX5_read_84 rfl ?_
        exact R_subk (ih _ _ _ _ _ _ _ ho0 ho1 ho2 hf) ⟨rfl, rfl, rfl, rfl, rfl, trivial⟩
      · replace hf := inegE hf h65
        refine R_aload_n dX5_read_68 rfl rfl ?_
        refine R_iload dX5_read_69 rfl ?_
        refine R_aload_n dX5_read_71 rfl rfl ?_
        refine R_iload dX5_read_72 rfl ?_
        obtain ⟨p74, hp74, hf⟩ := bdE hf
        refine R_callV (As := [aI v4]) (st := [aI v4, aR o0]) dX5_read_74 (ct_X4_byteAt _ _ _ ho1 hp74) mwX4_byteAt mvX4_byteAt mlX5_59 cl4 ho1 rfl rfl ⟨nle, nle, nle, nle⟩ nle rfl ?_
        refine R_aload_n dX5_read_77 rfl rfl ?_
        obtain ⟨p78, hp78, hf⟩ := bdE hf
        refine R_callV (As := [aI v4, aI p74, aR o2]) (st := []) dX5_read_78 (ct_X5_readByte _ _ _ _ _ ho0 ho2 hp78) mwX5_readByte mvX5_readByte mlX5_63 cl5 ho0 rfl rfl ⟨nle, nle, nle, nle⟩ nle rfl ?_
        obtain ⟨v4_81, hv4_81, hf⟩ := ltE hf
        refine R_iinc dX5_read_81 rfl rfl hv4_81 (by decide) rfl ?_
        refine R_goto dX5_read_84 rfl ?_
        exact R_subk (ih _ _ _ _ _ _ _ ho0 ho1 ho2 hf) ⟨rfl, rfl, rfl, rfl, rfl, trivial⟩
set_option maxRecDepth 20000 in
theorem ct_X5_read {G : Gl} (o0 : Nat) (o1 : Nat) (o2 : Nat) (v3 : Int) (M : Mem) {res : Mem} (ho0 : isO 5 o0) (ho1 : isO 4 o1) (ho2 : isO 7 o2) (hf : f_X5_read o0 o1 o2 v3 M = some res) : Ct G miX5_read yX5_read 2 [aR o0, aR o1, aR o2, aI v3] M none res := by
  refine Ct.of (L := [some (aR o0), some (aR o1), some (aR o2), some (aI v3), none]) mwX5_read rfl trivial nle ⟨rfl, rfl, rfl, rfl, trivial⟩ ?_
  unfold f_X5_read at hf
  refine R_aload_n dX5_read_0 rfl rfl ?_
  refine R_aload_n dX5_read_1 rfl rfl ?_
  refine R_getI (ki := 2) dX5_read_2 cl4 flX5_50 ho1 ff4_2 rfl rfl ?_
  refine R_sipush dX5_read_5 (v := 240) rfl ?_
  obtain ⟨x8, hx8, hf⟩ := ltE hf
  refine R_min dX5_read_8 jlX5_53 jw_min ⟨nle, nle, nle, nle⟩ nle hx8 ?_
  obtain ⟨M11, hM11, hf⟩ := ltE hf
  refine R_put (ki := 5) dX5_read_11 cl5 flX5_27 ho0 (Or.inl fz5_5) rfl hM11 ?_
  refine R_aload_n dX5_read_14 rfl rfl ?_
  refine R_iconst dX5_read_15 (v := 0) rfl ?_
  obtain ⟨M16, hM16, hf⟩ := ltE hf
  refine R_put (ki := 6) dX5_read_16 cl5 flX5_31 ho0 (Or.inl fz5_6) rfl hM16 ?_
  refine R_aload_n dX5_read_19 rfl rfl ?_
  refine R_iconst dX5_read_20 (v := 0) rfl ?_
  obtain ⟨M21, hM21, hf⟩ := ltE hf
  refine R_put (ki := 8) dX5_read_21 cl5 flX5_37 ho0 (Or.inl fz5_8) rfl hM21 ?_
  refine R_aload_n dX5_read_24 rfl rfl ?_
  refine R_iconst dX5_read_25 (v := 0) rfl ?_
  obtain ⟨M26, hM26, hf⟩ := ltE hf
  refine R_put (ki := 10) dX5_read_26 cl5 flX5_43 ho0 (Or.inl fz5_10) rfl hM26 ?_
  refine R_aload_n dX5_read_29 rfl rfl ?_
  refine R_iconst dX5_read_30 (v := 0) rfl ?_
  obtain ⟨M31, hM31, hf⟩ := ltE hf
  refine R_put (ki := 11) dX5_read_31 cl5 flX5_46 ho0 (Or.inr ⟨fz5_11, by decide⟩) rfl hM31 ?_
  refine R_iconst dX5_read_34 (v := 0) rfl ?_
  refine R_istore dX5_read_35 (by decide) rfl rfl ?_
  exact R_subk (rn_X5_read_L37 4096 _ _ _ _ _ _ _ ho0 ho1 ho2 hf) ⟨rfl, rfl, rfl, rfl, rfl, trivial⟩
/-! BracketHall$Reading.latestWaiting(II)I -/
def f_X5_latestWaiting_L4 : Nat → Nat → Int → Int → Mem → Option (Int)
  | 0, _, _, _, _ => none
  | n + 1, o0, v2, v3, M =>
    if v3 < 0 then
      some (-1)
    else
      if (0 : Int) ≤ v3 ∧ v3 < 240 then
      (f_X5_roleAt o0 (M (o0 + 5) v3) M).bind fun p15 =>
      if p15 = v2 then
        some v3
      else
        lt1 (w32 (v3 + (-1))) fun v3_24 =>
        f_X5_latestWaiting_L4 n o0 v2 v3_24 M
      else none
def f_X5_latestWaiting (o0 : Nat) (v1 : Int) (v2 : Int) (M : Mem) : Option (Int) :=
  lt1 (w32 (v1 - 1)) fun v3_3 =>
  f_X5_latestWaiting_L4 4096 o0 v2 v3_3 M
set_option maxRecDepth 20000 in
theorem rn_X5_latestWaiting_L4 {G : Gl} : ∀ (n : Nat) (o0 : Nat) (v2 : Int) (v3 : Int) (M : Mem) (res : Int), isO 5 o0 → f_X5_latestWaiting_L4 n o0 v2 v3 M = some res → Run G false (rmD 1 0 0) miX5_latestWaiting (ZP G (some (aI res)) M) 0 0 4 [some (aR o0), none, some (aI v2), some (aI v3)] [] M := by
  intro n
  induction n with
  | zero => intro o0 v2 v3 M res ho0 hf; cases hf
  | succ n ih =>
    intro o0 v2 v3 M res ho0 hf
    rw [f_X5_latestWaiting_L4] at hf
    refine R_iload_n dX5_latestWaiting_4 rfl rfl ?_
    refine R_if_lt dX5_latestWaiting_5 rfl (fun h5 => ?_) (fun h5 => ?_)
    · replace hf := iposE hf h5
      refine R_iconst dX5_latestWaiting_30 (v := (-1)) rfl ?_
      cases hf; exact E_iret dX5_latestWaiting_31 rfl rfl rfl
    · replace hf := inegE hf h5
      refine R_aload_n dX5_latestWaiting_8 rfl rfl ?_
      refine R_aload_n dX5_latestWaiting_9 rfl rfl ?_
      refine R_getR dX5_latestWaiting_10 cl5 flX5_24 ho0 ff5_4 (fr5_4 _) (k5_5 ho0).1 ?_
      refine R_iload_n dX5_latestWaiting_13 rfl rfl ?_
      obtain ⟨hg1, hf⟩ := gdE hf
      refine R_iaload dX5_latestWaiting_14 (k5_5 ho0) hg1.1 hg1.2 rfl ?_
      obtain ⟨p15, hp15, hf⟩ := bdE hf
      refine R_callV (As := [aI (M (o0 + 5) v3)]) (st := []) dX5_latestWaiting_15 (ct_X5_roleAt _ _ _ ho0 hp15) mwX5_roleAt mvX5_roleAt mlX5_86 cl5 ho0 rfl rfl ⟨nle, nle, nle, nle⟩ nle rfl ?_
      refine R_iload_n dX5_latestWaiting_18 rfl rfl ?_
      refine R_icmp_ne dX5_latestWaiting_19 rfl (fun h19 => ?_) (fun h19 => ?_)
      · replace hf := inegE hf h19
        obtain ⟨v3_24, hv3_24, hf⟩ := ltE hf
        refine R_iinc dX5_latestWaiting_24 rfl rfl hv3_24 (by decide) rfl ?_
        refine R_goto dX5_latestWaiting_27 rfl ?_
        exact R_subk (ih _ _ _ _ _ ho0 hf) ⟨rfl, rfl, rfl, trivial⟩
      · replace hf := iposE hf h19
        refine R_iload_n dX5_latestWaiting_22 rfl rfl ?_
        cases hf; exact E_iret dX5_latestWaiting_23 rfl rfl rfl
set_option maxRecDepth 20000 in
theorem ct_X5_latestWaiting {G : Gl} (o0 : Nat) (v1 : Int) (v2 : Int) (M : Mem) {res : Int} (ho0 : isO 5 o0) (hf : f_X5_latestWaiting o0 v1 v2 M = some res) : Ct G miX5_latestWaiting yX5_latestWaiting 1 [aR o0, aI v1, aI v2] M (some (aI res)) M := by
  refine Ct.of (L := [some (aR o0), some (aI v1), some (aI v2), none]) mwX5_latestWaiting rfl trivial nle ⟨rfl, rfl, rfl, trivial⟩ ?_
  unfold f_X5_latestWaiting at hf
  refine R_iload_n dX5_latestWaiting_0 rfl rfl ?_
  refine R_iconst dX5_latestWaiting_1 (v := 1) rfl ?_
  refine R_isub dX5_latestWaiting_2 rfl ?_
  obtain ⟨v3_3, hv3_3, hf⟩ := ltE hf
  refine R_istore_n dX5_latestWaiting_3 rfl (by decide) hv3_3 rfl ?_
  exact R_subk (rn_X5_latestWaiting_L4 4096 _ _ _ _ _ ho0 hf) ⟨rfl, rfl, rfl, trivial⟩
/-! BracketHall$Reading.joinPair(II)V -/
def f_X5_joinPair (o0 : Nat) (v1 : Int) (v2 : Int) (M : Mem) : Option (Mem) :=
  if v1 < 0 then
    some M
  else
    if v2 ≤ v1 then
      some M
    else
      if 240 ≤ v2 then
        some M
      else
        if (0 : Int) ≤ v1 ∧ v1 < 240 then
        lt1 (up M (o0 + 3) v1 v2) fun M22 =>
        if (0 : Int) ≤ v2 ∧ v2 < 240 then
        lt1 (up M22 (o0 + 3) v2 v1) fun M29 =>
        lt1 (up M29 o0 7 (w32 ((M29 o0 7) + 1))) fun M37 =>
        some M37
        else none
        else none
set_option maxRecDepth 20000 in
theorem ct_X5_joinPair {G : Gl} (o0 : Nat) (v1 : Int) (v2 : Int) (M : Mem) {res : Mem} (ho0 : isO 5 o0) (hf : f_X5_joinPair o0 v1 v2 M = some res) : Ct G miX5_joinPair yX5_joinPair 0 [aR o0, aI v1, aI v2] M none res := by
  refine Ct.of (L := [some (aR o0), some (aI v1), some (aI v2)]) mwX5_joinPair rfl trivial nle ⟨rfl, rfl, rfl, trivial⟩ ?_
  unfold f_X5_joinPair at hf
  refine R_iload_n dX5_joinPair_0 rfl rfl ?_
  refine R_if_lt dX5_joinPair_1 rfl (fun h1 => ?_) (fun h1 => ?_)
  · replace hf := iposE hf h1
    cases hf; exact E_vret dX5_joinPair_40 rfl rfl rfl
  · replace hf := inegE hf h1
    refine R_iload_n dX5_joinPair_4 rfl rfl ?_
    refine R_iload_n dX5_joinPair_5 rfl rfl ?_
    refine R_icmp_ge dX5_joinPair_6 rfl (fun h6 => ?_) (fun h6 => ?_)
    · replace hf := iposE hf h6
      cases hf; exact E_vret dX5_joinPair_40 rfl rfl rfl
    · replace hf := inegE hf h6
      refine R_iload_n dX5_joinPair_9 rfl rfl ?_
      refine R_sipush dX5_joinPair_10 (v := 240) rfl ?_
      refine R_icmp_ge dX5_joinPair_13 rfl (fun h13 => ?_) (fun h13 => ?_)
      · replace hf := iposE hf h13
        cases hf; exact E_vret dX5_joinPair_40 rfl rfl rfl
      · replace hf := inegE hf h13
        refine R_aload_n dX5_joinPair_16 rfl rfl ?_
        refine R_getR dX5_joinPair_17 cl5 flX5_18 ho0 ff5_2 (fr5_2 _) (k5_3 ho0).1 ?_
        refine R_iload_n dX5_joinPair_20 rfl rfl ?_
        refine R_iload_n dX5_joinPair_21 rfl rfl ?_
        obtain ⟨hg1, hf⟩ := gdE hf
        obtain ⟨M22, hM22, hf⟩ := ltE hf
        refine R_iastore dX5_joinPair_22 (k5_3 ho0) hg1.1 hg1.2 hM22 ?_
        refine R_aload_n dX5_joinPair_23 rfl rfl ?_
        refine R_getR dX5_joinPair_24 cl5 flX5_18 ho0 ff5_2 (fr5_2 _) (k5_3 ho0).1 ?_
        refine R_iload_n dX5_joinPair_27 rfl rfl ?_
        refine R_iload_n dX5_joinPair_28 rfl rfl ?_
        obtain ⟨hg2, hf⟩ := gdE hf
        obtain ⟨M29, hM29, hf⟩ := ltE hf
        refine R_iastore dX5_joinPair_29 (k5_3 ho0) hg2.1 hg2.2 hM29 ?_
        refine R_aload_n dX5_joinPair_30 rfl rfl ?_
        refine R_dupR dX5_joinPair_31 ?_
        refine R_getI (ki := 7) dX5_joinPair_32 cl5 flX5_34 ho0 ff5_7 rfl rfl ?_
        refine R_iconst dX5_joinPair_35 (v := 1) rfl ?_
        refine R_iadd dX5_joinPair_36 rfl ?_
        obtain ⟨M37, hM37, hf⟩ := ltE hf
        refine R_put (ki := 7) dX5_joinPair_37 cl5 flX5_34 ho0 (Or.inl fz5_7) rfl hM37 ?_
        cases hf; exact E_vret dX5_joinPair_40 rfl rfl rfl
/-! BracketHall$Reading.pairUp()V -/
def f_X5_pairUp_L9 : Nat → Nat → Int → Int → Mem → Option (Mem)
  | 0, _, _, _, _ => none
  | n + 1, o0, v1, v2, M =>
    if (M o0 5) ≤ v2 then
      some M
    else
      if (0 : Int) ≤ v2 ∧ v2 < 240 then
      lt1 (up M (o0 + 3) v2 (-1)) fun M23 =>
      lt1 (M23 (o0 + 2) v2) fun v3_30 =>
      if v3_30 = (-1) then
        lt1 (w32 (v2 + 1)) fun v2_96 =>
        f_X5_pairUp_L9 n o0 v1 v2_96 M23
      else
        if (irm v3_30 2) = 0 then
          if 240 ≤ v1 then
            (f_X5_latestWaiting o0 v1 (w32 (v3_30 - 1)) M23).bind fun p70 =>
            if p70 = (-1) then
              lt1 (w32 (v2 + 1)) fun v2_96 =>
              f_X5_pairUp_L9 n o0 v1 v2_96 M23
            else
              if (0 : Int) ≤ p70 ∧ p70 < 240 then
              (f_X5_joinPair o0 (M23 (o0 + 5) p70) v2 M23).bind fun p90 =>
              lt1 (w32 (v2 + 1)) fun v2_96 =>
              f_X5_pairUp_L9 n o0 p70 v2_96 p90
              else none
          else
            if (0 : Int) ≤ v1 ∧ v1 < 240 then
            lt1 (up M23 (o0 + 5) v1 v2) fun M58 =>
            lt1 (w32 (v1 + 1)) fun v1_59 =>
            lt1 (w32 (v2 + 1)) fun v2_96 =>
            f_X5_pairUp_L9 n o0 v1_59 v2_96 M58
            else none
        else
          (f_X5_latestWaiting o0 v1 (w32 (v3_30 - 1)) M23).bind fun p70 =>
          if p70 = (-1) then
            lt1 (w32 (v2 + 1)) fun v2_96 =>
            f_X5_pairUp_L9 n o0 v1 v2_96 M23
          else
            if (0 : Int) ≤ p70 ∧ p70 < 240 then
            (f_X5_joinPair o0 (M23 (o0 + 5) p70) v2 M23).bind fun p90 =>
            lt1 (w32 (v2 + 1)) fun v2_96 =>
            f_X5_pairUp_L9 n o0 p70 v2_96 p90
            else none
      else none
def f_X5_pairUp (o0 : Nat) (M : Mem) : Option (Mem) :=
  lt1 (up M o0 7 0) fun M4 =>
  f_X5_pairUp_L9 4096 o0 0 0 M4
set_option maxRecDepth 20000 in
theorem rn_X5_pairUp_L9 {G : Gl} : ∀ (n : Nat) (o0 : Nat) (v1 : Int) (v2 : Int) (M : Mem) (res : Mem), isO 5 o0 → f_X5_pairUp_L9 n o0 v1 v2 M = some res → Run G false (rmD 2 0 0) miX5_pairUp (ZP G none res) 0 0 9 [some (aR o0), some (aI v1), some (aI v2), none, none] [] M := by
  intro n
  induction n with
  | zero => intro o0 v1 v2 M res ho0 hf; cases hf
  | succ n ih =>
    intro o0 v1 v2 M res ho0 hf
    rw [f_X5_pairUp_L9] at hf
    refine R_iload_n dX5_pairUp_9 rfl rfl ?_
    refine R_aload_n dX5_pairUp_10 rfl rfl ?_
    refine R_getI (ki := 5) dX5_pairUp_11 cl5 flX5_27 ho0 ff5_5 rfl rfl ?_
    refine R_icmp_ge dX5_pairUp_14 rfl (fun h14 => ?_) (fun h14 => ?_)
    · replace hf := iposE hf h14
      cases hf; exact E_vret dX5_pairUp_102 rfl rfl rfl
    · replace hf := inegE hf h14
      refine R_aload_n dX5_pairUp_17 rfl rfl ?_
      refine R_getR dX5_pairUp_18 cl5 flX5_18 ho0 ff5_2 (fr5_2 _) (k5_3 ho0).1 ?_
      refine R_iload_n dX5_pairUp_21 rfl rfl ?_
      refine R_iconst dX5_pairUp_22 (v := (-1)) rfl ?_
      obtain ⟨hg1, hf⟩ := gdE hf
      obtain ⟨M23, hM23, hf⟩ := ltE hf
      refine R_iastore dX5_pairUp_23 (k5_3 ho0) hg1.1 hg1.2 hM23 ?_
      refine R_aload_n dX5_pairUp_24 rfl rfl ?_
      refine R_getR dX5_pairUp_25 cl5 flX5_15 ho0 ff5_1 (fr5_1 _) (k5_2 ho0).1 ?_
      refine R_iload_n dX5_pairUp_28 rfl rfl ?_
      refine R_iaload dX5_pairUp_29 (k5_2 ho0) hg1.1 hg1.2 rfl ?_
      obtain ⟨v3_30, hv3_30, hf⟩ := ltE hf
      refine R_istore_n dX5_pairUp_30 rfl (by decide) hv3_30 rfl ?_
      refine R_iload_n dX5_pairUp_31 rfl rfl ?_
      refine R_iconst dX5_pairUp_32 (v := (-1)) rfl ?_
      refine R_icmp_ne dX5_pairUp_33 rfl (fun h33 => ?_) (fun h33 => ?_)
      · replace hf := inegE hf h33
        refine R_iload_n dX5_pairUp_39 rfl rfl ?_
        refine R_iconst dX5_pairUp_40 (v := 2) rfl ?_
        refine R_irem dX5_pairUp_41 (by decide) rfl ?_
        refine R_if_ne dX5_pairUp_42 rfl (fun h42 => ?_) (fun h42 => ?_)
        · replace hf := inegE hf h42
          refine R_aload_n dX5_pairUp_65 rfl rfl ?_
          refine R_iload_n dX5_pairUp_66 rfl rfl ?_
          refine R_iload_n dX5_pairUp_67 rfl rfl ?_
          refine R_iconst dX5_pairUp_68 (v := 1) rfl ?_
          refine R_isub dX5_pairUp_69 rfl ?_
          obtain ⟨p70, hp70, hf⟩ := bdE hf
          refine R_callV (As := [aI v1, aI (w32 (v3_30 - 1))]) (st := []) dX5_pairUp_70 (ct_X5_latestWaiting _ _ _ _ ho0 hp70) mwX5_latestWaiting mvX5_latestWaiting mlX5_79 cl5 ho0 rfl rfl ⟨nle, nle, nle, nle⟩ nle rfl ?_
          refine R_istore dX5_pairUp_73 (by decide) rfl rfl ?_
          refine R_iload dX5_pairUp_75 rfl ?_
          refine R_iconst dX5_pairUp_77 (v := (-1)) rfl ?_
          refine R_icmp_eq dX5_pairUp_78 rfl (fun h78 => ?_) (fun h78 => ?_)
          · replace hf := iposE hf h78
            obtain ⟨v2_96, hv2_96, hf⟩ := ltE hf
            refine R_iinc dX5_pairUp_96 rfl rfl hv2_96 (by decide) rfl ?_
            refine R_goto dX5_pairUp_99 rfl ?_
            exact R_subk (ih _ _ _ _ _ ho0 hf) ⟨rfl, rfl, rfl, trivial⟩
          · replace hf := inegE hf h78
            refine R_aload_n dX5_pairUp_81 rfl rfl ?_
            refine R_aload_n dX5_pairUp_82 rfl rfl ?_
            refine R_getR dX5_pairUp_83 cl5 flX5_24 ho0 ff5_4 (fr5_4 _) (k5_5 ho0).1 ?_
            refine R_iload dX5_pairUp_86 rfl ?_
            obtain ⟨hg2, hf⟩ := gdE hf
            refine R_iaload dX5_pairUp_88 (k5_5 ho0) hg2.1 hg2.2 rfl ?_
            refine R_iload_n dX5_pairUp_89 rfl rfl ?_
            obtain ⟨p90, hp90, hf⟩ := bdE hf
            refine R_callV (As := [aI (M23 (o0 + 5) p70), aI v2]) (st := []) dX5_pairUp_90 (ct_X5_joinPair _ _ _ _ ho0 hp90) mwX5_joinPair mvX5_joinPair mlX5_82 cl5 ho0 rfl rfl ⟨nle, nle, nle, nle⟩ nle rfl ?_
            refine R_iload dX5_pairUp_93 rfl ?_
            refine R_istore_n dX5_pairUp_95 rfl (by decide) rfl rfl ?_
            obtain ⟨v2_96, hv2_96, hf⟩ := ltE hf
            refine R_iinc dX5_pairUp_96 rfl rfl hv2_96 (by decide) rfl ?_
            refine R_goto dX5_pairUp_99 rfl ?_
            exact R_subk (ih _ _ _ _ _ ho0 hf) ⟨rfl, rfl, rfl, trivial⟩
        · replace hf := iposE hf h42
          refine R_iload_n dX5_pairUp_45 rfl rfl ?_
          refine R_sipush dX5_pairUp_46 (v := 240) rfl ?_
          refine R_icmp_ge dX5_pairUp_49 rfl (fun h49 => ?_) (fun h49 => ?_)
          · replace hf := iposE hf h49
            refine R_aload_n dX5_pairUp_65 rfl rfl ?_
            refine R_iload_n dX5_pairUp_66 rfl rfl ?_
            refine R_iload_n dX5_pairUp_67 rfl rfl ?_
            refine R_iconst dX5_pairUp_68 (v := 1) rfl ?_
            refine R_isub dX5_pairUp_69 rfl ?_
            obtain ⟨p70, hp70, hf⟩ := bdE hf
            refine R_callV (As := [aI v1, aI (w32 (v3_30 - 1))]) (st := []) dX5_pairUp_70 (ct_X5_latestWaiting _ _ _ _ ho0 hp70) mwX5_latestWaiting mvX5_latestWaiting mlX5_79 cl5 ho0 rfl rfl ⟨nle, nle, nle, nle⟩ nle rfl ?_
            refine R_istore dX5_pairUp_73 (by decide) rfl rfl ?_
            refine R_iload dX5_pairUp_75 rfl ?_
            refine R_iconst dX5_pairUp_77 (v := (-1)) rfl ?_
            refine R_icmp_eq dX5_pairUp_78 rfl (fun h78 => ?_) (fun h78 => ?_)
            · replace hf := iposE hf h78
              obtain ⟨v2_96, hv2_96, hf⟩ := ltE hf
              refine R_iinc dX5_pairUp_96 rfl rfl hv2_96 (by decide) rfl ?_
              refine R_goto dX5_pairUp_99 rfl ?_
              exact R_subk (ih _ _ _ _ _ ho0 hf) ⟨rfl, rfl, rfl, trivial⟩
            · replace hf := inegE hf h78
              refine R_aload_n dX5_pairUp_81 rfl rfl ?_
              refine R_aload_n dX5_pairUp_82 rfl rfl ?_
              refine R_getR dX5_pairUp_83 cl5 flX5_24 ho0 ff5_4 (fr5_4 _) (k5_5 ho0).1 ?_
              refine R_iload dX5_pairUp_86 rfl ?_
              obtain ⟨hg3, hf⟩ := gdE hf
              refine R_iaload dX5_pairUp_88 (k5_5 ho0) hg3.1 hg3.2 rfl ?_
              refine R_iload_n dX5_pairUp_89 rfl rfl ?_
              obtain ⟨p90, hp90, hf⟩ := bdE hf
              refine R_callV (As := [aI (M23 (o0 + 5) p70), aI v2]) (st := []) dX5_pairUp_90 (ct_X5_joinPair _ _ _ _ ho0 hp90) mwX5_joinPair mvX5_joinPair mlX5_82 cl5 ho0 rfl rfl ⟨nle, nle, nle, nle⟩ nle rfl ?_
              refine R_iload dX5_pairUp_93 rfl ?_
              refine R_istore_n dX5_pairUp_95 rfl (by decide) rfl rfl ?_
              obtain ⟨v2_96, hv2_96, hf⟩ := ltE hf
              refine R_iinc dX5_pairUp_96 rfl rfl hv2_96 (by decide) rfl ?_
              refine R_goto dX5_pairUp_99 rfl ?_
              exact R_subk (ih _ _ _ _ _ ho0 hf) ⟨rfl, rfl, rfl, trivial⟩
          · replace hf := inegE hf h49
            refine R_aload_n dX5_pairUp_52 rfl rfl ?_
            refine R_getR dX5_pairUp_53 cl5 flX5_24 ho0 ff5_4 (fr5_4 _) (k5_5 ho0).1 ?_
            refine R_iload_n dX5_pairUp_56 rfl rfl ?_
            refine R_iload_n dX5_pairUp_57 rfl rfl ?_
            obtain ⟨hg4, hf⟩ := gdE hf
            obtain ⟨M58, hM58, hf⟩ := ltE hf
            refine R_iastore dX5_pairUp_58 (k5_5 ho0) hg4.1 hg4.2 hM58 ?_
            obtain ⟨v1_59, hv1_59, hf⟩ := ltE hf
            refine R_iinc dX5_pairUp_59 rfl rfl hv1_59 (by decide) rfl ?_
            refine R_goto dX5_pairUp_62 rfl ?_
            obtain ⟨v2_96, hv2_96, hf⟩ := ltE hf
            refine R_iinc dX5_pairUp_96 rfl rfl hv2_96 (by decide) rfl ?_
            refine R_goto dX5_pairUp_99 rfl ?_
            exact R_subk (ih _ _ _ _ _ ho0 hf) ⟨rfl, rfl, rfl, trivial⟩
      · replace hf := iposE hf h33
        refine R_goto dX5_pairUp_36 rfl ?_
        obtain ⟨v2_96, hv2_96, hf⟩ := ltE hf
        refine R_iinc dX5_pairUp_96 rfl rfl hv2_96 (by decide) rfl ?_
        refine R_goto dX5_pairUp_99 rfl ?_
        exact R_subk (ih _ _ _ _ _ ho0 hf) ⟨rfl, rfl, rfl, trivial⟩
set_option maxRecDepth 20000 in
theorem ct_X5_pairUp {G : Gl} (o0 : Nat) (M : Mem) {res : Mem} (ho0 : isO 5 o0) (hf : f_X5_pairUp o0 M = some res) : Ct G miX5_pairUp yX5_pairUp 2 [aR o0] M none res := by
  refine Ct.of (L := [some (aR o0), none, none, none, none]) mwX5_pairUp rfl trivial nle ⟨rfl, trivial⟩ ?_
  unfold f_X5_pairUp at hf
  refine R_iconst dX5_pairUp_0 (v := 0) rfl ?_
  refine R_istore_n dX5_pairUp_1 rfl (by decide) rfl rfl ?_
  refine R_aload_n dX5_pairUp_2 rfl rfl ?_
  refine R_iconst dX5_pairUp_3 (v := 0) rfl ?_
  obtain ⟨M4, hM4, hf⟩ := ltE hf
  refine R_put (ki := 7) dX5_pairUp_4 cl5 flX5_34 ho0 (Or.inl fz5_7) rfl hM4 ?_
  refine R_iconst dX5_pairUp_7 (v := 0) rfl ?_
  refine R_istore_n dX5_pairUp_8 rfl (by decide) rfl rfl ?_
  exact R_subk (rn_X5_pairUp_L9 4096 _ _ _ _ _ ho0 hf) ⟨rfl, rfl, rfl, trivial⟩
/-! BracketHall$Reading.partnerOf(I)I -/
def f_X5_partnerOf (o0 : Nat) (v1 : Int) (M : Mem) : Option (Int) :=
  if v1 < 0 then
    some (-1)
  else
    if (M o0 5) ≤ v1 then
      some (-1)
    else
      if (0 : Int) ≤ v1 ∧ v1 < 240 then
      some (M (o0 + 3) v1)
      else none
set_option maxRecDepth 20000 in
theorem ct_X5_partnerOf {G : Gl} (o0 : Nat) (v1 : Int) (M : Mem) {res : Int} (ho0 : isO 5 o0) (hf : f_X5_partnerOf o0 v1 M = some res) : Ct G miX5_partnerOf yX5_partnerOf 0 [aR o0, aI v1] M (some (aI res)) M := by
  refine Ct.of (L := [some (aR o0), some (aI v1)]) mwX5_partnerOf rfl trivial nle ⟨rfl, rfl, trivial⟩ ?_
  unfold f_X5_partnerOf at hf
  refine R_iload_n dX5_partnerOf_0 rfl rfl ?_
  refine R_if_lt dX5_partnerOf_1 rfl (fun h1 => ?_) (fun h1 => ?_)
  · replace hf := iposE hf h1
    refine R_iconst dX5_partnerOf_21 (v := (-1)) rfl ?_
    cases hf; exact E_iret dX5_partnerOf_22 rfl rfl rfl
  · replace hf := inegE hf h1
    refine R_iload_n dX5_partnerOf_4 rfl rfl ?_
    refine R_aload_n dX5_partnerOf_5 rfl rfl ?_
    refine R_getI (ki := 5) dX5_partnerOf_6 cl5 flX5_27 ho0 ff5_5 rfl rfl ?_
    refine R_icmp_ge dX5_partnerOf_9 rfl (fun h9 => ?_) (fun h9 => ?_)
    · replace hf := iposE hf h9
      refine R_iconst dX5_partnerOf_21 (v := (-1)) rfl ?_
      cases hf; exact E_iret dX5_partnerOf_22 rfl rfl rfl
    · replace hf := inegE hf h9
      refine R_aload_n dX5_partnerOf_12 rfl rfl ?_
      refine R_getR dX5_partnerOf_13 cl5 flX5_18 ho0 ff5_2 (fr5_2 _) (k5_3 ho0).1 ?_
      refine R_iload_n dX5_partnerOf_16 rfl rfl ?_
      obtain ⟨hg1, hf⟩ := gdE hf
      refine R_iaload dX5_partnerOf_17 (k5_3 ho0) hg1.1 hg1.2 rfl ?_
      refine R_goto dX5_partnerOf_18 rfl ?_
      cases hf; exact E_iret dX5_partnerOf_22 rfl rfl rfl
