/-! BracketHall$Page.setPrices(III)V -/
def f_X4_setPrices (o0 : Nat) (v1 : Int) (v2 : Int) (v3 : Int) (M : Mem) : Option (Mem) :=
  lt1 (up M o0 5 v1) fun M2 =>
  lt1 (up M2 o0 6 v2) fun M7 =>
  lt1 (up M7 o0 7 v3) fun M12 =>
  some M12
set_option maxRecDepth 20000 in
theorem ct_X4_setPrices {G : Gl} (o0 : Nat) (v1 : Int) (v2 : Int) (v3 : Int) (M : Mem) {res : Mem} (ho0 : isO 4 o0) (hf : f_X4_setPrices o0 v1 v2 v3 M = some res) : Ct G miX4_setPrices yX4_setPrices 0 [aR o0, aI v1, aI v2, aI v3] M none res := by
  refine Ct.of (L := [some (aR o0), some (aI v1), some (aI v2), some (aI v3)]) mwX4_setPrices rfl trivial nle ⟨rfl, rfl, rfl, rfl, trivial⟩ ?_
  unfold f_X4_setPrices at hf
  refine R_aload_n dX4_setPrices_0 rfl rfl ?_
  refine R_iload_n dX4_setPrices_1 rfl rfl ?_
  obtain ⟨M2, hM2, hf⟩ := ltE hf
  refine R_put (ki := 5) dX4_setPrices_2 cl4 flX4_28 ho0 (Or.inl fz4_5) rfl hM2 ?_
  refine R_aload_n dX4_setPrices_5 rfl rfl ?_
  refine R_iload_n dX4_setPrices_6 rfl rfl ?_
  obtain ⟨M7, hM7, hf⟩ := ltE hf
  refine R_put (ki := 6) dX4_setPrices_7 cl4 flX4_31 ho0 (Or.inl fz4_6) rfl hM7 ?_
  refine R_aload_n dX4_setPrices_10 rfl rfl ?_
  refine R_iload_n dX4_setPrices_11 rfl rfl ?_
  obtain ⟨M12, hM12, hf⟩ := ltE hf
  refine R_put (ki := 7) dX4_setPrices_12 cl4 flX4_34 ho0 (Or.inl fz4_7) rfl hM12 ?_
  cases hf; exact E_vret dX4_setPrices_15 rfl rfl rfl
/-! BracketHall$Page.copyFrom(LBracketHall$Page;)V -/
def f_X4_copyFrom (o0 : Nat) (o1 : Nat) (M : Mem) : Option (Mem) :=
  if (0 : Int) ≤ 0 ∧ (0 : Int) ≤ 0 ∧ (0 : Int) ≤ 240 ∧ 0 + 240 ≤ (240 : Int) ∧ 0 + 240 ≤ (240 : Int) then
  lt1 (upc M (o1 + 1) 0 (o0 + 1) 0 240) fun M13 =>
  if (0 : Int) ≤ 0 ∧ (0 : Int) ≤ 0 ∧ (0 : Int) ≤ 8 ∧ 0 + 8 ≤ (8 : Int) ∧ 0 + 8 ≤ (8 : Int) then
  lt1 (upc M13 (o1 + 2) 0 (o0 + 2) 0 8) fun M28 =>
  lt1 (up M28 o0 2 (M28 o1 2)) fun M36 =>
  lt1 (up M36 o0 3 (M36 o1 3)) fun M44 =>
  lt1 (up M44 o0 4 (M44 o1 4)) fun M52 =>
  (f_X4_setPrices o0 (M52 o1 5) (M52 o1 6) (M52 o1 7) M52).bind fun p68 =>
  some p68
  else none
  else none
set_option maxRecDepth 20000 in
theorem ct_X4_copyFrom {G : Gl} (o0 : Nat) (o1 : Nat) (M : Mem) {res : Mem} (ho0 : isO 4 o0) (ho1 : isO 4 o1) (hf : f_X4_copyFrom o0 o1 M = some res) : Ct G miX4_copyFrom yX4_copyFrom 1 [aR o0, aR o1] M none res := by
  refine Ct.of (L := [some (aR o0), some (aR o1)]) mwX4_copyFrom rfl trivial nle ⟨rfl, rfl, trivial⟩ ?_
  unfold f_X4_copyFrom at hf
  refine R_aload_n dX4_copyFrom_0 rfl rfl ?_
  refine R_getR dX4_copyFrom_1 cl4 flX4_9 ho1 ff4_0 (fr4_0 _) (k4_1 ho1).1 ?_
  refine R_iconst dX4_copyFrom_4 (v := 0) rfl ?_
  refine R_aload_n dX4_copyFrom_5 rfl rfl ?_
  refine R_getR dX4_copyFrom_6 cl4 flX4_9 ho0 ff4_0 (fr4_0 _) (k4_1 ho0).1 ?_
  refine R_iconst dX4_copyFrom_9 (v := 0) rfl ?_
  refine R_sipush dX4_copyFrom_10 (v := 240) rfl ?_
  obtain ⟨hg1, hf⟩ := gdE hf
  obtain ⟨M13, hM13, hf⟩ := ltE hf
  refine R_copy dX4_copyFrom_13 jlX4_37 jw_copy ⟨nle, nle⟩ nle (k4_1 ho1) (k4_1 ho0) hg1.1 hg1.2.1 hg1.2.2.1 hg1.2.2.2.1 hg1.2.2.2.2 hM13 ?_
  refine R_aload_n dX4_copyFrom_16 rfl rfl ?_
  refine R_getR dX4_copyFrom_17 cl4 flX4_15 ho1 ff4_1 (fr4_1 _) (k4_2 ho1).1 ?_
  refine R_iconst dX4_copyFrom_20 (v := 0) rfl ?_
  refine R_aload_n dX4_copyFrom_21 rfl rfl ?_
  refine R_getR dX4_copyFrom_22 cl4 flX4_15 ho0 ff4_1 (fr4_1 _) (k4_2 ho0).1 ?_
  refine R_iconst dX4_copyFrom_25 (v := 0) rfl ?_
  refine R_bipush dX4_copyFrom_26 (v := 8) rfl ?_
  obtain ⟨hg2, hf⟩ := gdE hf
  obtain ⟨M28, hM28, hf⟩ := ltE hf
  refine R_copy dX4_copyFrom_28 jlX4_37 jw_copy ⟨nle, nle⟩ nle (k4_2 ho1) (k4_2 ho0) hg2.1 hg2.2.1 hg2.2.2.1 hg2.2.2.2.1 hg2.2.2.2.2 hM28 ?_
  refine R_aload_n dX4_copyFrom_31 rfl rfl ?_
  refine R_aload_n dX4_copyFrom_32 rfl rfl ?_
  refine R_getI (ki := 2) dX4_copyFrom_33 cl4 flX4_18 ho1 ff4_2 rfl rfl ?_
  obtain ⟨M36, hM36, hf⟩ := ltE hf
  refine R_put (ki := 2) dX4_copyFrom_36 cl4 flX4_18 ho0 (Or.inl fz4_2) rfl hM36 ?_
  refine R_aload_n dX4_copyFrom_39 rfl rfl ?_
  refine R_aload_n dX4_copyFrom_40 rfl rfl ?_
  refine R_getI (ki := 3) dX4_copyFrom_41 cl4 flX4_22 ho1 ff4_3 rfl rfl ?_
  obtain ⟨M44, hM44, hf⟩ := ltE hf
  refine R_put (ki := 3) dX4_copyFrom_44 cl4 flX4_22 ho0 (Or.inl fz4_3) rfl hM44 ?_
  refine R_aload_n dX4_copyFrom_47 rfl rfl ?_
  refine R_aload_n dX4_copyFrom_48 rfl rfl ?_
  refine R_getI (ki := 4) dX4_copyFrom_49 cl4 flX4_25 ho1 ff4_4 rfl rfl ?_
  obtain ⟨M52, hM52, hf⟩ := ltE hf
  refine R_put (ki := 4) dX4_copyFrom_52 cl4 flX4_25 ho0 (Or.inl fz4_4) rfl hM52 ?_
  refine R_aload_n dX4_copyFrom_55 rfl rfl ?_
  refine R_aload_n dX4_copyFrom_56 rfl rfl ?_
  refine R_getI (ki := 5) dX4_copyFrom_57 cl4 flX4_28 ho1 ff4_5 rfl rfl ?_
  refine R_aload_n dX4_copyFrom_60 rfl rfl ?_
  refine R_getI (ki := 6) dX4_copyFrom_61 cl4 flX4_31 ho1 ff4_6 rfl rfl ?_
  refine R_aload_n dX4_copyFrom_64 rfl rfl ?_
  refine R_getI (ki := 7) dX4_copyFrom_65 cl4 flX4_34 ho1 ff4_7 rfl rfl ?_
  obtain ⟨p68, hp68, hf⟩ := bdE hf
  refine R_callV (As := [aI (M52 o1 5), aI (M52 o1 6), aI (M52 o1 7)]) (st := []) dX4_copyFrom_68 (ct_X4_setPrices _ _ _ _ _ ho0 hp68) mwX4_setPrices mvX4_setPrices mlX4_43 cl4 ho0 rfl rfl ⟨nle, nle, nle, nle⟩ nle rfl ?_
  cases hf; exact E_vret dX4_copyFrom_71 rfl rfl rfl
/-! BracketHall$History.keep(LBracketHall$Page;)V -/
def f_X0_keep (o1 : Nat) (M : Mem) : Option (Mem) :=
  if (0 : Int) ≤ M 20 1 ∧ M 20 1 < 10 then
  lt1 (rfa 21 (M 20 1).toNat) fun q8 =>
  (f_X4_copyFrom q8 o1 M).bind fun p16 =>
  if 10 ≤ (w32 ((p16 20 1) + 1)) then
    lt1 (up p16 20 1 0) fun M41 =>
    lt1 (if 10 < (w32 ((M41 20 2) + 1)) then 10 else w32 ((M41 20 2) + 1)) fun x53 =>
    lt1 (up M41 20 2 x53) fun M56 =>
    some M56
  else
    lt1 (up p16 20 1 (w32 ((p16 20 1) + 1))) fun M41 =>
    lt1 (if 10 < (w32 ((M41 20 2) + 1)) then 10 else w32 ((M41 20 2) + 1)) fun x53 =>
    lt1 (up M41 20 2 x53) fun M56 =>
    some M56
  else none
set_option maxRecDepth 20000 in
theorem ct_X0_keep {G : Gl} (o1 : Nat) (M : Mem) {res : Mem} (ho1 : isO 4 o1) (hf : f_X0_keep o1 M = some res) : Ct G miX0_keep yX0_keep 2 [aR 20, aR o1] M none res := by
  refine Ct.of (L := [some (aR 20), some (aR o1), none]) mwX0_keep rfl trivial nle ⟨rfl, rfl, trivial⟩ ?_
  unfold f_X0_keep at hf
  refine R_aload_n dX0_keep_0 rfl rfl ?_
  refine R_getR dX0_keep_1 cl0 flX0_11 o_20 ff0_0 (fr0_0 _) a_21.1 ?_
  refine R_aload_n dX0_keep_4 rfl rfl ?_
  refine R_getI (ki := 1) dX0_keep_5 cl0 flX0_17 o_20 ff0_1 rfl rfl ?_
  obtain ⟨hg1, hf⟩ := gdE hf
  obtain ⟨q8, hq8, hf⟩ := ltE hf
  have hoq8 : isO 4 q8 := by rw [hq8]; exact pgs_h hg1.1 hg1.2
  refine R_aaload dX0_keep_8 a_21 hg1.1 hg1.2 hq8 hoq8.1 ?_
  refine R_astore_n dX0_keep_9 rfl (by decide) rfl ?_
  refine R_aload_n dX0_keep_10 rfl rfl ?_
  refine R_ifnull dX0_keep_11 ?_
  refine R_aload_n dX0_keep_14 rfl rfl ?_
  refine R_aload_n dX0_keep_15 rfl rfl ?_
  obtain ⟨p16, hp16, hf⟩ := bdE hf
  refine R_callV (As := [aR o1]) (st := []) dX0_keep_16 (ct_X4_copyFrom _ _ _ hoq8 ho1 hp16) mwX4_copyFrom mvX4_copyFrom mlX0_25 cl4 hoq8 rfl rfl ⟨nle, nle, nle, nle⟩ nle rfl ?_
  refine R_aload_n dX0_keep_19 rfl rfl ?_
  refine R_aload_n dX0_keep_20 rfl rfl ?_
  refine R_getI (ki := 1) dX0_keep_21 cl0 flX0_17 o_20 ff0_1 rfl rfl ?_
  refine R_iconst dX0_keep_24 (v := 1) rfl ?_
  refine R_iadd dX0_keep_25 rfl ?_
  refine R_bipush dX0_keep_26 (v := 10) rfl ?_
  refine R_icmp_ge dX0_keep_28 rfl (fun h28 => ?_) (fun h28 => ?_)
  · replace hf := iposE hf h28
    refine R_iconst dX0_keep_40 (v := 0) rfl ?_
    obtain ⟨M41, hM41, hf⟩ := ltE hf
    refine R_put (ki := 1) dX0_keep_41 cl0 flX0_17 o_20 (Or.inl fz0_1) rfl hM41 ?_
    refine R_aload_n dX0_keep_44 rfl rfl ?_
    refine R_aload_n dX0_keep_45 rfl rfl ?_
    refine R_getI (ki := 2) dX0_keep_46 cl0 flX0_21 o_20 ff0_2 rfl rfl ?_
    refine R_iconst dX0_keep_49 (v := 1) rfl ?_
    refine R_iadd dX0_keep_50 rfl ?_
    refine R_bipush dX0_keep_51 (v := 10) rfl ?_
    obtain ⟨x53, hx53, hf⟩ := ltE hf
    refine R_min dX0_keep_53 jlX0_29 jw_min ⟨nle, nle, nle, nle⟩ nle hx53 ?_
    obtain ⟨M56, hM56, hf⟩ := ltE hf
    refine R_put (ki := 2) dX0_keep_56 cl0 flX0_21 o_20 (Or.inl fz0_2) rfl hM56 ?_
    cases hf; exact E_vret dX0_keep_59 rfl rfl rfl
  · replace hf := inegE hf h28
    refine R_aload_n dX0_keep_31 rfl rfl ?_
    refine R_getI (ki := 1) dX0_keep_32 cl0 flX0_17 o_20 ff0_1 rfl rfl ?_
    refine R_iconst dX0_keep_35 (v := 1) rfl ?_
    refine R_iadd dX0_keep_36 rfl ?_
    refine R_goto dX0_keep_37 rfl ?_
    obtain ⟨M41, hM41, hf⟩ := ltE hf
    refine R_put (ki := 1) dX0_keep_41 cl0 flX0_17 o_20 (Or.inl fz0_1) rfl hM41 ?_
    refine R_aload_n dX0_keep_44 rfl rfl ?_
    refine R_aload_n dX0_keep_45 rfl rfl ?_
    refine R_getI (ki := 2) dX0_keep_46 cl0 flX0_21 o_20 ff0_2 rfl rfl ?_
    refine R_iconst dX0_keep_49 (v := 1) rfl ?_
    refine R_iadd dX0_keep_50 rfl ?_
    refine R_bipush dX0_keep_51 (v := 10) rfl ?_
    obtain ⟨x53, hx53, hf⟩ := ltE hf
    refine R_min dX0_keep_53 jlX0_29 jw_min ⟨nle, nle, nle, nle⟩ nle hx53 ?_
    obtain ⟨M56, hM56, hf⟩ := ltE hf
    refine R_put (ki := 2) dX0_keep_56 cl0 flX0_21 o_20 (Or.inl fz0_2) rfl hM56 ?_
    cases hf; exact E_vret dX0_keep_59 rfl rfl rfl
/-! BracketHall$History.takeBack(LBracketHall$Page;)V -/
def f_X0_takeBack (o1 : Nat) (M : Mem) : Option (Mem) :=
  if (M 20 2) = 0 then
    some M
  else
    if (M 20 1) ≤ 0 then
      lt1 (up M 20 1 9) fun M27 =>
      lt1 (up M27 20 2 (w32 ((M27 20 2) - 1))) fun M37 =>
      if (0 : Int) ≤ M37 20 1 ∧ M37 20 1 < 10 then
      lt1 (rfa 21 (M37 20 1).toNat) fun q48 =>
      (f_X4_copyFrom o1 q48 M37).bind fun p56 =>
      some p56
      else none
    else
      lt1 (up M 20 1 (w32 ((M 20 1) - 1))) fun M27 =>
      lt1 (up M27 20 2 (w32 ((M27 20 2) - 1))) fun M37 =>
      if (0 : Int) ≤ M37 20 1 ∧ M37 20 1 < 10 then
      lt1 (rfa 21 (M37 20 1).toNat) fun q48 =>
      (f_X4_copyFrom o1 q48 M37).bind fun p56 =>
      some p56
      else none
set_option maxRecDepth 20000 in
theorem ct_X0_takeBack {G : Gl} (o1 : Nat) (M : Mem) {res : Mem} (ho1 : isO 4 o1) (hf : f_X0_takeBack o1 M = some res) : Ct G miX0_takeBack yX0_takeBack 2 [aR 20, aR o1] M none res := by
  refine Ct.of (L := [some (aR 20), some (aR o1), none]) mwX0_takeBack rfl trivial nle ⟨rfl, rfl, trivial⟩ ?_
  unfold f_X0_takeBack at hf
  refine R_aload_n dX0_takeBack_0 rfl rfl ?_
  refine R_getI (ki := 2) dX0_takeBack_1 cl0 flX0_21 o_20 ff0_2 rfl rfl ?_
  refine R_if_ne dX0_takeBack_4 rfl (fun h4 => ?_) (fun h4 => ?_)
  · replace hf := inegE hf h4
    refine R_aload_n dX0_takeBack_8 rfl rfl ?_
    refine R_aload_n dX0_takeBack_9 rfl rfl ?_
    refine R_getI (ki := 1) dX0_takeBack_10 cl0 flX0_17 o_20 ff0_1 rfl rfl ?_
    refine R_if_le dX0_takeBack_13 rfl (fun h13 => ?_) (fun h13 => ?_)
    · replace hf := iposE hf h13
      refine R_bipush dX0_takeBack_25 (v := 9) rfl ?_
      obtain ⟨M27, hM27, hf⟩ := ltE hf
      refine R_put (ki := 1) dX0_takeBack_27 cl0 flX0_17 o_20 (Or.inl fz0_1) rfl hM27 ?_
      refine R_aload_n dX0_takeBack_30 rfl rfl ?_
      refine R_dupR dX0_takeBack_31 ?_
      refine R_getI (ki := 2) dX0_takeBack_32 cl0 flX0_21 o_20 ff0_2 rfl rfl ?_
      refine R_iconst dX0_takeBack_35 (v := 1) rfl ?_
      refine R_isub dX0_takeBack_36 rfl ?_
      obtain ⟨M37, hM37, hf⟩ := ltE hf
      refine R_put (ki := 2) dX0_takeBack_37 cl0 flX0_21 o_20 (Or.inl fz0_2) rfl hM37 ?_
      refine R_aload_n dX0_takeBack_40 rfl rfl ?_
      refine R_getR dX0_takeBack_41 cl0 flX0_11 o_20 ff0_0 (fr0_0 _) a_21.1 ?_
      refine R_aload_n dX0_takeBack_44 rfl rfl ?_
      refine R_getI (ki := 1) dX0_takeBack_45 cl0 flX0_17 o_20 ff0_1 rfl rfl ?_
      obtain ⟨hg1, hf⟩ := gdE hf
      obtain ⟨q48, hq48, hf⟩ := ltE hf
      have hoq48 : isO 4 q48 := by rw [hq48]; exact pgs_h hg1.1 hg1.2
      refine R_aaload dX0_takeBack_48 a_21 hg1.1 hg1.2 hq48 hoq48.1 ?_
      refine R_astore_n dX0_takeBack_49 rfl (by decide) rfl ?_
      refine R_aload_n dX0_takeBack_50 rfl rfl ?_
      refine R_ifnull dX0_takeBack_51 ?_
      refine R_aload_n dX0_takeBack_54 rfl rfl ?_
      refine R_aload_n dX0_takeBack_55 rfl rfl ?_
      obtain ⟨p56, hp56, hf⟩ := bdE hf
      refine R_callV (As := [aR q48]) (st := []) dX0_takeBack_56 (ct_X4_copyFrom _ _ _ ho1 hoq48 hp56) mwX4_copyFrom mvX4_copyFrom mlX0_25 cl4 ho1 rfl rfl ⟨nle, nle, nle, nle⟩ nle rfl ?_
      cases hf; exact E_vret dX0_takeBack_59 rfl rfl rfl
    · replace hf := inegE hf h13
      refine R_aload_n dX0_takeBack_16 rfl rfl ?_
      refine R_getI (ki := 1) dX0_takeBack_17 cl0 flX0_17 o_20 ff0_1 rfl rfl ?_
      refine R_iconst dX0_takeBack_20 (v := 1) rfl ?_
      refine R_isub dX0_takeBack_21 rfl ?_
      refine R_goto dX0_takeBack_22 rfl ?_
      obtain ⟨M27, hM27, hf⟩ := ltE hf
      refine R_put (ki := 1) dX0_takeBack_27 cl0 flX0_17 o_20 (Or.inl fz0_1) rfl hM27 ?_
      refine R_aload_n dX0_takeBack_30 rfl rfl ?_
      refine R_dupR dX0_takeBack_31 ?_
      refine R_getI (ki := 2) dX0_takeBack_32 cl0 flX0_21 o_20 ff0_2 rfl rfl ?_
      refine R_iconst dX0_takeBack_35 (v := 1) rfl ?_
      refine R_isub dX0_takeBack_36 rfl ?_
      obtain ⟨M37, hM37, hf⟩ := ltE hf
      refine R_put (ki := 2) dX0_takeBack_37 cl0 flX0_21 o_20 (Or.inl fz0_2) rfl hM37 ?_
      refine R_aload_n dX0_takeBack_40 rfl rfl ?_
      refine R_getR dX0_takeBack_41 cl0 flX0_11 o_20 ff0_0 (fr0_0 _) a_21.1 ?_
      refine R_aload_n dX0_takeBack_44 rfl rfl ?_
      refine R_getI (ki := 1) dX0_takeBack_45 cl0 flX0_17 o_20 ff0_1 rfl rfl ?_
      obtain ⟨hg2, hf⟩ := gdE hf
      obtain ⟨q48, hq48, hf⟩ := ltE hf
      have hoq48 : isO 4 q48 := by rw [hq48]; exact pgs_h hg2.1 hg2.2
      refine R_aaload dX0_takeBack_48 a_21 hg2.1 hg2.2 hq48 hoq48.1 ?_
      refine R_astore_n dX0_takeBack_49 rfl (by decide) rfl ?_
      refine R_aload_n dX0_takeBack_50 rfl rfl ?_
      refine R_ifnull dX0_takeBack_51 ?_
      refine R_aload_n dX0_takeBack_54 rfl rfl ?_
      refine R_aload_n dX0_takeBack_55 rfl rfl ?_
      obtain ⟨p56, hp56, hf⟩ := bdE hf
      refine R_callV (As := [aR q48]) (st := []) dX0_takeBack_56 (ct_X4_copyFrom _ _ _ ho1 hoq48 hp56) mwX4_copyFrom mvX4_copyFrom mlX0_25 cl4 ho1 rfl rfl ⟨nle, nle, nle, nle⟩ nle rfl ?_
      cases hf; exact E_vret dX0_takeBack_59 rfl rfl rfl
  · replace hf := iposE hf h4
    cases hf; exact E_vret dX0_takeBack_7 rfl rfl rfl
/-! BracketHall$Input.addFour(I)V -/
def f_X1_addFour_L3 : Nat → Int → Int → Mem → Option (Mem)
  | 0, _, _, _ => none
  | n + 1, v1, v2, M =>
    if v2 < 0 then
      some M
    else
      if 600 ≤ (M 1 1) then
        lt1 (w32 (v2 + (-8))) fun v2_43 =>
        f_X1_addFour_L3 n v1 v2_43 M
      else
        if (0 : Int) ≤ M 1 1 ∧ M 1 1 < 600 then
        lt1 (up M 2 (M 1 1) (ian (ius v1 v2) 255)) fun M32 =>
        lt1 (up M32 1 1 (w32 ((M32 1 1) + 1))) fun M40 =>
        lt1 (w32 (v2 + (-8))) fun v2_43 =>
        f_X1_addFour_L3 n v1 v2_43 M40
        else none
def f_X1_addFour (v1 : Int) (M : Mem) : Option (Mem) :=
  f_X1_addFour_L3 4096 v1 24 M
set_option maxRecDepth 20000 in
theorem rn_X1_addFour_L3 {G : Gl} : ∀ (n : Nat) (v1 : Int) (v2 : Int) (M : Mem) (res : Mem),  f_X1_addFour_L3 n v1 v2 M = some res → Run G false (rmD 0 0 0) miX1_addFour (ZP G none res) 0 0 3 [some (aR 1), some (aI v1), some (aI v2)] [] M := by
  intro n
  induction n with
  | zero => intro v1 v2 M res  hf; cases hf
  | succ n ih =>
    intro v1 v2 M res  hf
    rw [f_X1_addFour_L3] at hf
    refine R_iload_n dX1_addFour_3 rfl rfl ?_
    refine R_if_lt dX1_addFour_4 rfl (fun h4 => ?_) (fun h4 => ?_)
    · replace hf := iposE hf h4
      cases hf; exact E_vret dX1_addFour_49 rfl rfl rfl
    · replace hf := inegE hf h4
      refine R_aload_n dX1_addFour_7 rfl rfl ?_
      refine R_getI (ki := 1) dX1_addFour_8 cl1 flX1_15 o_1 ff1_1 rfl rfl ?_
      refine R_sipush dX1_addFour_11 (v := 600) rfl ?_
      refine R_icmp_ge dX1_addFour_14 rfl (fun h14 => ?_) (fun h14 => ?_)
      · replace hf := iposE hf h14
        obtain ⟨v2_43, hv2_43, hf⟩ := ltE hf
        refine R_iinc dX1_addFour_43 rfl rfl hv2_43 (by decide) rfl ?_
        refine R_goto dX1_addFour_46 rfl ?_
        exact R_subk (ih _ _ _ _  hf) ⟨rfl, rfl, rfl, trivial⟩
      · replace hf := inegE hf h14
        refine R_aload_n dX1_addFour_17 rfl rfl ?_
        refine R_getR dX1_addFour_18 cl1 flX1_9 o_1 ff1_0 (fr1_0 _) a_2.1 ?_
        refine R_aload_n dX1_addFour_21 rfl rfl ?_
        refine R_getI (ki := 1) dX1_addFour_22 cl1 flX1_15 o_1 ff1_1 rfl rfl ?_
        refine R_iload_n dX1_addFour_25 rfl rfl ?_
        refine R_iload_n dX1_addFour_26 rfl rfl ?_
        refine R_iushr dX1_addFour_27 rfl ?_
        refine R_sipush dX1_addFour_28 (v := 255) rfl ?_
        refine R_iand dX1_addFour_31 rfl ?_
        obtain ⟨hg1, hf⟩ := gdE hf
        obtain ⟨M32, hM32, hf⟩ := ltE hf
        refine R_iastore dX1_addFour_32 a_2 hg1.1 hg1.2 hM32 ?_
        refine R_aload_n dX1_addFour_33 rfl rfl ?_
        refine R_dupR dX1_addFour_34 ?_
        refine R_getI (ki := 1) dX1_addFour_35 cl1 flX1_15 o_1 ff1_1 rfl rfl ?_
        refine R_iconst dX1_addFour_38 (v := 1) rfl ?_
        refine R_iadd dX1_addFour_39 rfl ?_
        obtain ⟨M40, hM40, hf⟩ := ltE hf
        refine R_put (ki := 1) dX1_addFour_40 cl1 flX1_15 o_1 (Or.inl fz1_1) rfl hM40 ?_
        obtain ⟨v2_43, hv2_43, hf⟩ := ltE hf
        refine R_iinc dX1_addFour_43 rfl rfl hv2_43 (by decide) rfl ?_
        refine R_goto dX1_addFour_46 rfl ?_
        exact R_subk (ih _ _ _ _  hf) ⟨rfl, rfl, rfl, trivial⟩
set_option maxRecDepth 20000 in
theorem ct_X1_addFour {G : Gl} (v1 : Int) (M : Mem) {res : Mem}  (hf : f_X1_addFour v1 M = some res) : Ct G miX1_addFour yX1_addFour 0 [aR 1, aI v1] M none res := by
  refine Ct.of (L := [some (aR 1), some (aI v1), none]) mwX1_addFour rfl trivial nle ⟨rfl, rfl, trivial⟩ ?_
  unfold f_X1_addFour at hf
  refine R_bipush dX1_addFour_0 (v := 24) rfl ?_
  refine R_istore_n dX1_addFour_2 rfl (by decide) rfl rfl ?_
  exact R_subk (rn_X1_addFour_L3 4096 _ _ _ _  hf) ⟨rfl, rfl, rfl, trivial⟩
/-! BracketHall$Input.byteAt(I)I -/
def f_X1_byteAt (v1 : Int) (M : Mem) : Option (Int) :=
  if v1 < 0 then
    some (-1)
  else
    if 600 ≤ v1 then
      some (-1)
    else
      if (0 : Int) ≤ v1 ∧ v1 < 600 then
      some (M 2 v1)
      else none
set_option maxRecDepth 20000 in
theorem ct_X1_byteAt {G : Gl} (v1 : Int) (M : Mem) {res : Int}  (hf : f_X1_byteAt v1 M = some res) : Ct G miX1_byteAt yX1_byteAt 0 [aR 1, aI v1] M (some (aI res)) M := by
  refine Ct.of (L := [some (aR 1), some (aI v1)]) mwX1_byteAt rfl trivial nle ⟨rfl, rfl, trivial⟩ ?_
  unfold f_X1_byteAt at hf
  refine R_iload_n dX1_byteAt_0 rfl rfl ?_
  refine R_if_lt dX1_byteAt_1 rfl (fun h1 => ?_) (fun h1 => ?_)
  · replace hf := iposE hf h1
    refine R_iconst dX1_byteAt_20 (v := (-1)) rfl ?_
    cases hf; exact E_iret dX1_byteAt_21 rfl rfl rfl
  · replace hf := inegE hf h1
    refine R_iload_n dX1_byteAt_4 rfl rfl ?_
    refine R_sipush dX1_byteAt_5 (v := 600) rfl ?_
    refine R_icmp_ge dX1_byteAt_8 rfl (fun h8 => ?_) (fun h8 => ?_)
    · replace hf := iposE hf h8
      refine R_iconst dX1_byteAt_20 (v := (-1)) rfl ?_
      cases hf; exact E_iret dX1_byteAt_21 rfl rfl rfl
    · replace hf := inegE hf h8
      refine R_aload_n dX1_byteAt_11 rfl rfl ?_
      refine R_getR dX1_byteAt_12 cl1 flX1_9 o_1 ff1_0 (fr1_0 _) a_2.1 ?_
      refine R_iload_n dX1_byteAt_15 rfl rfl ?_
      obtain ⟨hg1, hf⟩ := gdE hf
      refine R_iaload dX1_byteAt_16 a_2 hg1.1 hg1.2 rfl ?_
      refine R_goto dX1_byteAt_17 rfl ?_
      cases hf; exact E_iret dX1_byteAt_21 rfl rfl rfl
/-! BracketHall.isTextByte(I)Z -/
def f_X9_isTextByte (v0 : Int) (M : Mem) : Option (Int) :=
  if v0 = 10 then
    some 1
  else
    if v0 < 32 then
      some 0
    else
      if 126 < v0 then
        some 0
      else
        some 1
set_option maxRecDepth 20000 in
theorem ct_X9_isTextByte {G : Gl} (v0 : Int) (M : Mem) {res : Int}  (hf : f_X9_isTextByte v0 M = some res) : Ct G miX9_isTextByte yX9_isTextByte 0 [aI v0] M (some (aI res)) M := by
  refine Ct.of (L := [some (aI v0)]) mwX9_isTextByte rfl trivial nle ⟨rfl, trivial⟩ ?_
  unfold f_X9_isTextByte at hf
  refine R_iload_n dX9_isTextByte_0 rfl rfl ?_
  refine R_bipush dX9_isTextByte_1 (v := 10) rfl ?_
  refine R_icmp_eq dX9_isTextByte_3 rfl (fun h3 => ?_) (fun h3 => ?_)
  · replace hf := iposE hf h3
    refine R_iconst dX9_isTextByte_18 (v := 1) rfl ?_
    refine R_goto dX9_isTextByte_19 rfl ?_
    cases hf; exact E_zret dX9_isTextByte_23 rfl (by decide) rfl rfl
  · replace hf := inegE hf h3
    refine R_iload_n dX9_isTextByte_6 rfl rfl ?_
    refine R_bipush dX9_isTextByte_7 (v := 32) rfl ?_
    refine R_icmp_lt dX9_isTextByte_9 rfl (fun h9 => ?_) (fun h9 => ?_)
    · replace hf := iposE hf h9
      refine R_iconst dX9_isTextByte_22 (v := 0) rfl ?_
      cases hf; exact E_zret dX9_isTextByte_23 rfl (by decide) rfl rfl
    · replace hf := inegE hf h9
      refine R_iload_n dX9_isTextByte_12 rfl rfl ?_
      refine R_bipush dX9_isTextByte_13 (v := 126) rfl ?_
      refine R_icmp_gt dX9_isTextByte_15 rfl (fun h15 => ?_) (fun h15 => ?_)
      · replace hf := iposE hf h15
        refine R_iconst dX9_isTextByte_22 (v := 0) rfl ?_
        cases hf; exact E_zret dX9_isTextByte_23 rfl (by decide) rfl rfl
      · replace hf := inegE hf h15
        refine R_iconst dX9_isTextByte_18 (v := 1) rfl ?_
        refine R_goto dX9_isTextByte_19 rfl ?_
        cases hf; exact E_zret dX9_isTextByte_23 rfl (by decide) rfl rfl
/-! BracketHall$Input.isText(I)Z -/
def f_X1_isText_L2 : Nat → Int → Int → Mem → Option (Int)
  | 0, _, _, _ => none
  | n + 1, v1, v2, M =>
    if v1 ≤ v2 then
      some 1
    else
      (f_X1_byteAt v2 M).bind fun p9 =>
      (f_X9_isTextByte p9 M).bind fun p12 =>
      if p12 = 0 then
        some 0
      else
        lt1 (w32 (v2 + 1)) fun v2_20 =>
        f_X1_isText_L2 n v1 v2_20 M
def f_X1_isText (v1 : Int) (M : Mem) : Option (Int) :=
  f_X1_isText_L2 4096 v1 0 M
set_option maxRecDepth 20000 in
theorem rn_X1_isText_L2 {G : Gl} : ∀ (n : Nat) (v1 : Int) (v2 : Int) (M : Mem) (res : Int),  f_X1_isText_L2 n v1 v2 M = some res → Run G false (rmD 1 0 0) miX1_isText (ZP G (some (aI res)) M) 0 0 2 [some (aR 1), some (aI v1), some (aI v2)] [] M := by
  intro n
  induction n with
  | zero => intro v1 v2 M res  hf; cases hf
  | succ n ih =>
    intro v1 v2 M res  hf
    rw [f_X1_isText_L2] at hf
    refine R_iload_n dX1_isText_2 rfl rfl ?_
    refine R_iload_n dX1_isText_3 rfl rfl ?_
    refine R_icmp_ge dX1_isText_4 rfl (fun h4 => ?_) (fun h4 => ?_)
    · replace hf := iposE hf h4
      refine R_iconst dX1_isText_26 (v := 1) rfl ?_
      cases hf; exact E_zret dX1_isText_27 rfl (by decide) rfl rfl
    · replace hf := inegE hf h4
      refine R_aload_n dX1_isText_7 rfl rfl ?_
      refine R_iload_n dX1_isText_8 rfl rfl ?_
      obtain ⟨p9, hp9, hf⟩ := bdE hf
      refine R_callV (As := [aI v2]) (st := []) dX1_isText_9 (ct_X1_byteAt _ _  hp9) mwX1_byteAt mvX1_byteAt mlX1_19 cl1 o_1 rfl rfl ⟨nle, nle, nle, nle⟩ nle rfl ?_
      obtain ⟨p12, hp12, hf⟩ := bdE hf
      refine R_callS (As := [aI p9]) (st := []) dX1_isText_12 (ct_X9_isTextByte _ _  hp12) mwX9_isTextByte msX9_isTextByte mlX1_23 rfl ⟨nle, nle, nle, nle⟩ nle rfl ?_
      refine R_if_ne dX1_isText_15 rfl (fun h15 => ?_) (fun h15 => ?_)
      · replace hf := inegE hf h15
        obtain ⟨v2_20, hv2_20, hf⟩ := ltE hf
        refine R_iinc dX1_isText_20 rfl rfl hv2_20 (by decide) rfl ?_
        refine R_goto dX1_isText_23 rfl ?_
        exact R_subk (ih _ _ _ _  hf) ⟨rfl, rfl, rfl, trivial⟩
      · replace hf := iposE hf h15
        refine R_iconst dX1_isText_18 (v := 0) rfl ?_
        cases hf; exact E_zret dX1_isText_19 rfl (by decide) rfl rfl
set_option maxRecDepth 20000 in
theorem ct_X1_isText {G : Gl} (v1 : Int) (M : Mem) {res : Int}  (hf : f_X1_isText v1 M = some res) : Ct G miX1_isText yX1_isText 1 [aR 1, aI v1] M (some (aI res)) M := by
  refine Ct.of (L := [some (aR 1), some (aI v1), none]) mwX1_isText rfl trivial nle ⟨rfl, rfl, trivial⟩ ?_
  unfold f_X1_isText at hf
  refine R_iconst dX1_isText_0 (v := 0) rfl ?_
  refine R_istore_n dX1_isText_1 rfl (by decide) rfl rfl ?_
  exact R_subk (rn_X1_isText_L2 4096 _ _ _ _  hf) ⟨rfl, rfl, rfl, trivial⟩
/-! BracketHall$Mending.placed(II)I -/
def f_X2_placed (v0 : Int) (v1 : Int) (M : Mem) : Option (Int) :=
  some (w32 ((w32 (v0 * 256)) + v1))
set_option maxRecDepth 20000 in
theorem ct_X2_placed {G : Gl} (v0 : Int) (v1 : Int) (M : Mem) {res : Int}  (hf : f_X2_placed v0 v1 M = some res) : Ct G miX2_placed yX2_placed 0 [aI v0, aI v1] M (some (aI res)) M := by
  refine Ct.of (L := [some (aI v0), some (aI v1)]) mwX2_placed rfl trivial nle ⟨rfl, rfl, trivial⟩ ?_
  unfold f_X2_placed at hf
  refine R_iload_n dX2_placed_0 rfl rfl ?_
  refine R_sipush dX2_placed_1 (v := 256) rfl ?_
  refine R_imul dX2_placed_4 rfl ?_
  refine R_iload_n dX2_placed_5 rfl rfl ?_
  refine R_iadd dX2_placed_6 rfl ?_
  cases hf; exact E_iret dX2_placed_7 rfl rfl rfl
/-! BracketHall$Mending.costIn(I)I -/
def f_X2_costIn (v0 : Int) (M : Mem) : Option (Int) :=
  some (idv v0 256)
set_option maxRecDepth 20000 in
theorem ct_X2_costIn {G : Gl} (v0 : Int) (M : Mem) {res : Int}  (hf : f_X2_costIn v0 M = some res) : Ct G miX2_costIn yX2_costIn 0 [aI v0] M (some (aI res)) M := by
  refine Ct.of (L := [some (aI v0)]) mwX2_costIn rfl trivial nle ⟨rfl, trivial⟩ ?_
  unfold f_X2_costIn at hf
  refine R_iload_n dX2_costIn_0 rfl rfl ?_
  refine R_sipush dX2_costIn_1 (v := 256) rfl ?_
  refine R_idiv dX2_costIn_4 (by decide) rfl ?_
  cases hf; exact E_iret dX2_costIn_5 rfl rfl rfl
/-! BracketHall$Mending.placeIn(I)I -/
def f_X2_placeIn (v0 : Int) (M : Mem) : Option (Int) :=
  some (irm v0 256)
set_option maxRecDepth 20000 in
theorem ct_X2_placeIn {G : Gl} (v0 : Int) (M : Mem) {res : Int}  (hf : f_X2_placeIn v0 M = some res) : Ct G miX2_placeIn yX2_placeIn 0 [aI v0] M (some (aI res)) M := by
  refine Ct.of (L := [some (aI v0)]) mwX2_placeIn rfl trivial nle ⟨rfl, trivial⟩ ?_
  unfold f_X2_placeIn at hf
  refine R_iload_n dX2_placeIn_0 rfl rfl ?_
  refine R_sipush dX2_placeIn_1 (v := 256) rfl ?_
  refine R_irem dX2_placeIn_4 (by decide) rfl ?_
  cases hf; exact E_iret dX2_placeIn_5 rfl rfl rfl
/-! BracketHall$Mending.setPrices(LBracketHall$Page;)V -/
def f_X2_setPrices (o1 : Nat) (M : Mem) : Option (Mem) :=
  if (M o1 6) < (M o1 5) then
    lt1 (up M 66 14 1) fun M17 =>
    lt1 (if (M17 o1 6) < (M17 o1 5) then M17 o1 6 else M17 o1 5) fun x29 =>
    lt1 (up M17 66 13 x29) fun M32 =>
    lt1 (up M32 66 15 (M32 o1 7)) fun M40 =>
    some M40
  else
    lt1 (up M 66 14 0) fun M17 =>
    lt1 (if (M17 o1 6) < (M17 o1 5) then M17 o1 6 else M17 o1 5) fun x29 =>
    lt1 (up M17 66 13 x29) fun M32 =>
    lt1 (up M32 66 15 (M32 o1 7)) fun M40 =>
    some M40
set_option maxRecDepth 20000 in
theorem ct_X2_setPrices {G : Gl} (o1 : Nat) (M : Mem) {res : Mem} (ho1 : isO 4 o1) (hf : f_X2_setPrices o1 M = some res) : Ct G miX2_setPrices yX2_setPrices 1 [aR 66, aR o1] M none res := by
  refine Ct.of (L := [some (aR 66), some (aR o1)]) mwX2_setPrices rfl trivial nle ⟨rfl, rfl, trivial⟩ ?_
  unfold f_X2_setPrices at hf
  refine R_aload_n dX2_setPrices_0 rfl rfl ?_
  refine R_aload_n dX2_setPrices_1 rfl rfl ?_
  refine R_getI (ki := 5) dX2_setPrices_2 cl4 flX2_62 ho1 ff4_5 rfl rfl ?_
  refine R_aload_n dX2_setPrices_5 rfl rfl ?_
  refine R_getI (ki := 6) dX2_setPrices_6 cl4 flX2_67 ho1 ff4_6 rfl rfl ?_
  refine R_icmp_gt dX2_setPrices_9 rfl (fun h9 => ?_) (fun h9 => ?_)
  · replace hf := iposE hf h9
    refine R_iconst dX2_setPrices_16 (v := 1) rfl ?_
    obtain ⟨M17, hM17, hf⟩ := ltE hf
    refine R_put (ki := 14) dX2_setPrices_17 cl2 flX2_56 o_66 (Or.inl fz2_14) rfl hM17 ?_
    refine R_aload_n dX2_setPrices_20 rfl rfl ?_
    refine R_aload_n dX2_setPrices_21 rfl rfl ?_
    refine R_getI (ki := 5) dX2_setPrices_22 cl4 flX2_62 ho1 ff4_5 rfl rfl ?_
    refine R_aload_n dX2_setPrices_25 rfl rfl ?_
    refine R_getI (ki := 6) dX2_setPrices_26 cl4 flX2_67 ho1 ff4_6 rfl rfl ?_
    obtain ⟨x29, hx29, hf⟩ := ltE hf
    refine R_min dX2_setPrices_29 jlX2_70 jw_min ⟨nle, nle, nle, nle⟩ nle hx29 ?_
    obtain ⟨M32, hM32, hf⟩ := ltE hf
    refine R_put (ki := 13) dX2_setPrices_32 cl2 flX2_53 o_66 (Or.inl fz2_13) rfl hM32 ?_
    refine R_aload_n dX2_setPrices_35 rfl rfl ?_
    refine R_aload_n dX2_setPrices_36 rfl rfl ?_
    refine R_getI (ki := 7) dX2_setPrices_37 cl4 flX2_76 ho1 ff4_7 rfl rfl ?_
    obtain ⟨M40, hM40, hf⟩ := ltE hf
    refine R_put (ki := 15) dX2_setPrices_40 cl2 flX2_59 o_66 (Or.inl fz2_15) rfl hM40 ?_
    cases hf; exact E_vret dX2_setPrices_43 rfl rfl rfl
  · replace hf := inegE hf h9
    refine R_iconst dX2_setPrices_12 (v := 0) rfl ?_
    refine R_goto dX2_setPrices_13 rfl ?_
    obtain ⟨M17, hM17, hf⟩ := ltE hf
    refine R_put (ki := 14) dX2_setPrices_17 cl2 flX2_56 o_66 (Or.inl fz2_14) rfl hM17 ?_
    refine R_aload_n dX2_setPrices_20 rfl rfl ?_
    refine R_aload_n dX2_setPrices_21 rfl rfl ?_
    refine R_getI (ki := 5) dX2_setPrices_22 cl4 flX2_62 ho1 ff4_5 rfl rfl ?_
    refine R_aload_n dX2_setPrices_25 rfl rfl ?_
    refine R_getI (ki := 6) dX2_setPrices_26 cl4 flX2_67 ho1 ff4_6 rfl rfl ?_
    obtain ⟨x29, hx29, hf⟩ := ltE hf
    refine R_min dX2_setPrices_29 jlX2_70 jw_min ⟨nle, nle, nle, nle⟩ nle hx29 ?_
    obtain ⟨M32, hM32, hf⟩ := ltE hf
    refine R_put (ki := 13) dX2_setPrices_32 cl2 flX2_53 o_66 (Or.inl fz2_13) rfl hM32 ?_
    refine R_aload_n dX2_setPrices_35 rfl rfl ?_
    refine R_aload_n dX2_setPrices_36 rfl rfl ?_
    refine R_getI (ki := 7) dX2_setPrices_37 cl4 flX2_76 ho1 ff4_7 rfl rfl ?_
    obtain ⟨M40, hM40, hf⟩ := ltE hf
    refine R_put (ki := 15) dX2_setPrices_40 cl2 flX2_59 o_66 (Or.inl fz2_15) rfl hM40 ?_
    cases hf; exact E_vret dX2_setPrices_43 rfl rfl rfl
/-! BracketHall$Reading.roleAt(I)I -/
def f_X5_roleAt (o0 : Nat) (v1 : Int) (M : Mem) : Option (Int) :=
  if v1 < 0 then
    some (-1)
  else
    if (M o0 5) ≤ v1 then
      some (-1)
    else
      if (0 : Int) ≤ v1 ∧ v1 < 240 then
      some (M (o0 + 2) v1)
      else none
set_option maxRecDepth 20000 in
theorem ct_X5_roleAt {G : Gl} (o0 : Nat) (v1 : Int) (M : Mem) {res : Int} (ho0 : isO 5 o0) (hf : f_X5_roleAt o0 v1 M = some res) : Ct G miX5_roleAt yX5_roleAt 0 [aR o0, aI v1] M (some (aI res)) M := by
  refine Ct.of (L := [some (aR o0), some (aI v1)]) mwX5_roleAt rfl trivial nle ⟨rfl, rfl, trivial⟩ ?_
  unfold f_X5_roleAt at hf
  refine R_iload_n dX5_roleAt_0 rfl rfl ?_
  refine R_if_lt dX5_roleAt_1 rfl (fun h1 => ?_) (fun h1 => ?_)
  · replace hf := iposE hf h1
    refine R_iconst dX5_roleAt_21 (v := (-1)) rfl ?_
    cases hf; exact E_iret dX5_roleAt_22 rfl rfl rfl
  · replace hf := inegE hf h1
    refine R_iload_n dX5_roleAt_4 rfl rfl ?_
    refine R_aload_n dX5_roleAt_5 rfl rfl ?_
    refine R_getI (ki := 5) dX5_roleAt_6 cl5 flX5_27 ho0 ff5_5 rfl rfl ?_
    refine R_icmp_ge dX5_roleAt_9 rfl (fun h9 => ?_) (fun h9 => ?_)
    · replace hf := iposE hf h9
      refine R_iconst dX5_roleAt_21 (v := (-1)) rfl ?_
      cases hf; exact E_iret dX5_roleAt_22 rfl rfl rfl
    · replace hf := inegE hf h9
      refine R_aload_n dX5_roleAt_12 rfl rfl ?_
      refine R_getR dX5_roleAt_13 cl5 flX5_15 ho0 ff5_1 (fr5_1 _) (k5_2 ho0).1 ?_
      refine R_iload_n dX5_roleAt_16 rfl rfl ?_
      obtain ⟨hg1, hf⟩ := gdE hf
      refine R_iaload dX5_roleAt_17 (k5_2 ho0) hg1.1 hg1.2 rfl ?_
      refine R_goto dX5_roleAt_18 rfl ?_
      cases hf; exact E_iret dX5_roleAt_22 rfl rfl rfl
/-! BracketHall$Mending.gather(LBracketHall$Reading;)V -/
def f_X2_gather_L7 : Nat → Nat → Int → Mem → Option (Mem)
  | 0, _, _, _ => none
  | n + 1, o1, v2, M =>
    if (M o1 5) ≤ v2 then
      some M
    else
      if 240 ≤ (M 66 10) then
        some M
      else
        (f_X5_roleAt o1 v2 M).bind fun p27 =>
        if p27 = (-1) then
          lt1 (w32 (v2 + 1)) fun v2_87 =>
          f_X2_gather_L7 n o1 v2_87 M
        else
          if (0 : Int) ≤ M 66 10 ∧ M 66 10 < 240 then
          lt1 (up M 67 (M 66 10) v2) fun M45 =>
          if (0 : Int) ≤ M45 66 10 ∧ M45 66 10 < 240 then
          lt1 (up M45 68 (M45 66 10) p27) fun M55 =>
          if (irm p27 2) = 1 then
            if (0 : Int) ≤ M55 66 10 ∧ M55 66 10 < 240 then
            lt1 (up M55 69 (M55 66 10) 1) fun M76 =>
            lt1 (up M76 66 10 (w32 ((M76 66 10) + 1))) fun M84 =>
            lt1 (w32 (v2 + 1)) fun v2_87 =>
            f_X2_gather_L7 n o1 v2_87 M84
            else none
          else
            if (0 : Int) ≤ M55 66 10 ∧ M55 66 10 < 240 then
            lt1 (up M55 69 (M55 66 10) 0) fun M76 =>
            lt1 (up M76 66 10 (w32 ((M76 66 10) + 1))) fun M84 =>
            lt1 (w32 (v2 + 1)) fun v2_87 =>
            f_X2_gather_L7 n o1 v2_87 M84
            else none
          else none
          else none
def f_X2_gather (o1 : Nat) (M : Mem) : Option (Mem) :=
  lt1 (up M 66 10 0) fun M2 =>
  f_X2_gather_L7 4096 o1 0 M2
set_option maxRecDepth 20000 in
theorem rn_X2_gather_L7 {G : Gl} : ∀ (n : Nat) (o1 : Nat) (v2 : Int) (M : Mem) (res : Mem), isO 5 o1 → f_X2_gather_L7 n o1 v2 M = some res → Run G false (rmD 1 0 0) miX2_gather (ZP G none res) 0 0 7 [some (aR 66), some (aR o1), some (aI v2), none] [] M := by
  intro n
  induction n with
  | zero => intro o1 v2 M res ho1 hf; cases hf
  | succ n ih =>
    intro o1 v2 M res ho1 hf
    rw [f_X2_gather_L7] at hf
    refine R_iload_n dX2_gather_7 rfl rfl ?_
    refine R_aload_n dX2_gather_8 rfl rfl ?_
    refine R_getI (ki := 5) dX2_gather_9 cl5 flX2_100 ho1 ff5_5 rfl rfl ?_
    refine R_icmp_ge dX2_gather_12 rfl (fun h12 => ?_) (fun h12 => ?_)
    · replace hf := iposE hf h12
      cases hf; exact E_vret dX2_gather_93 rfl rfl rfl
    · replace hf := inegE hf h12
      refine R_aload_n dX2_gather_15 rfl rfl ?_
      refine R_getI (ki := 10) dX2_gather_16 cl2 flX2_43 o_66 ff2_10 rfl rfl ?_
      refine R_sipush dX2_gather_19 (v := 240) rfl ?_
      refine R_icmp_ge dX2_gather_22 rfl (fun h22 => ?_) (fun h22 => ?_)
      · replace hf := iposE hf h22
        cases hf; exact E_vret dX2_gather_93 rfl rfl rfl
      · replace hf := inegE hf h22
        refine R_aload_n dX2_gather_25 rfl rfl ?_
        refine R_iload_n dX2_gather_26 rfl rfl ?_
        obtain ⟨p27, hp27, hf⟩ := bdE hf
        refine R_callV (As := [aI v2]) (st := []) dX2_gather_27 (ct_X5_roleAt _ _ _ ho1 hp27) mwX5_roleAt mvX5_roleAt mlX2_105 cl5 ho1 rfl rfl ⟨nle, nle, nle, nle⟩ nle rfl ?_
        refine R_istore_n dX2_gather_30 rfl (by decide) rfl rfl ?_
        refine R_iload_n dX2_gather_31 rfl rfl ?_
        refine R_iconst dX2_gather_32 (v := (-1)) rfl ?_
        refine R_icmp_eq dX2_gather_33 rfl (fun h33 => ?_) (fun h33 => ?_)
        · replace hf := iposE hf h33
          obtain ⟨v2_87, hv2_87, hf⟩ := ltE hf
          refine R_iinc dX2_gather_87 rfl rfl hv2_87 (by decide) rfl ?_
          refine R_goto dX2_gather_90 rfl ?_
          exact R_subk (ih _ _ _ _ ho1 hf) ⟨rfl, rfl, rfl, trivial⟩
        · replace hf := inegE hf h33
          refine R_aload_n dX2_gather_36 rfl rfl ?_
          refine R_getR dX2_gather_37 cl2 flX2_9 o_66 ff2_0 (fr2_0 _) a_67.1 ?_
          refine R_aload_n dX2_gather_40 rfl rfl ?_
          refine R_getI (ki := 10) dX2_gather_41 cl2 flX2_43 o_66 ff2_10 rfl rfl ?_
          refine R_iload_n dX2_gather_44 rfl rfl ?_
          obtain ⟨hg1, hf⟩ := gdE hf
          obtain ⟨M45, hM45, hf⟩ := ltE hf
          refine R_iastore dX2_gather_45 a_67 hg1.1 hg1.2 hM45 ?_
          refine R_aload_n dX2_gather_46 rfl rfl ?_
          refine R_getR dX2_gather_47 cl2 flX2_15 o_66 ff2_1 (fr2_1 _) a_68.1 ?_
          refine R_aload_n dX2_gather_50 rfl rfl ?_
          refine R_getI (ki := 10) dX2_gather_51 cl2 flX2_43 o_66 ff2_10 rfl rfl ?_
          refine R_iload_n dX2_gather_54 rfl rfl ?_
          obtain ⟨hg2, hf⟩ := gdE hf
          obtain ⟨M55, hM55, hf⟩ := ltE hf
          refine R_iastore dX2_gather_55 a_68 hg2.1 hg2.2 hM55 ?_
          refine R_aload_n dX2_gather_56 rfl rfl ?_
          refine R_getR dX2_gather_57 cl2 flX2_18 o_66 ff2_2 (fr2_2 _) a_69.1 ?_
          refine R_aload_n dX2_gather_60 rfl rfl ?_
          refine R_getI (ki := 10) dX2_gather_61 cl2 flX2_43 o_66 ff2_10 rfl rfl ?_
          refine R_iload_n dX2_gather_64 rfl rfl ?_
          refine R_iconst dX2_gather_65 (v := 2) rfl ?_
          refine R_irem dX2_gather_66 (by decide) rfl ?_
          refine R_iconst dX2_gather_67 (v := 1) rfl ?_
          refine R_icmp_ne dX2_gather_68 rfl (fun h68 => ?_) (fun h68 => ?_)
          · replace hf := inegE hf h68
            refine R_iconst dX2_gather_75 (v := 0) rfl ?_
            obtain ⟨hg3, hf⟩ := gdE hf
            obtain ⟨M76, hM76, hf⟩ := ltE hf
            refine R_zastore dX2_gather_76 a_69 hg3.1 hg3.2 (by decide) hM76 ?_
            refine R_aload_n dX2_gather_77 rfl rfl ?_
            refine R_dupR dX2_gather_78 ?_
            refine R_getI (ki := 10) dX2_gather_79 cl2 flX2_43 o_66 ff2_10 rfl rfl ?_
            refine R_iconst dX2_gather_82 (v := 1) rfl ?_
            refine R_iadd dX2_gather_83 rfl ?_
            obtain ⟨M84, hM84, hf⟩ := ltE hf
            refine R_put (ki := 10) dX2_gather_84 cl2 flX2_43 o_66 (Or.inl fz2_10) rfl hM84 ?_
            obtain ⟨v2_87, hv2_87, hf⟩ := ltE hf
            refine R_iinc dX2_gather_87 rfl rfl hv2_87 (by decide) rfl ?_
            refine R_goto dX2_gather_90 rfl ?_
            exact R_subk (ih _ _ _ _ ho1 hf) ⟨rfl, rfl, rfl, trivial⟩
          · replace hf := iposE hf h68
            refine R_iconst dX2_gather_71 (v := 1) rfl ?_
            refine R_goto dX2_gather_72 rfl ?_
            obtain ⟨hg4, hf⟩ := gdE hf
            obtain ⟨M76, hM76, hf⟩ := ltE hf
            refine R_zastore dX2_gather_76 a_69 hg4.1 hg4.2 (by decide) hM76 ?_
            refine R_aload_n dX2_gather_77 rfl rfl ?_
            refine R_dupR dX2_gather_78 ?_
            refine R_getI (ki := 10) dX2_gather_79 cl2 flX2_43 o_66 ff2_10 rfl rfl ?_
            refine R_iconst dX2_gather_82 (v := 1) rfl ?_
            refine R_iadd dX2_gather_83 rfl ?_
            obtain ⟨M84, hM84, hf⟩ := ltE hf
            refine R_put (ki := 10) dX2_gather_84 cl2 flX2_43 o_66 (Or.inl fz2_10) rfl hM84 ?_
            obtain ⟨v2_87, hv2_87, hf⟩ := ltE hf
            refine R_iinc dX2_gather_87 rfl rfl hv2_87 (by decide) rfl ?_
            refine R_goto dX2_gather_90 rfl ?_
            exact R_subk (ih _ _ _ _ ho1 hf) ⟨rfl, rfl, rfl, trivial⟩
set_option maxRecDepth 20000 in
theorem ct_X2_gather {G : Gl} (o1 : Nat) (M : Mem) {res : Mem} (ho1 : isO 5 o1) (hf : f_X2_gather o1 M = some res) : Ct G miX2_gather yX2_gather 1 [aR 66, aR o1] M none res := by
  refine Ct.of (L := [some (aR 66), some (aR o1), none, none]) mwX2_gather rfl trivial nle ⟨rfl, rfl, trivial⟩ ?_
  unfold f_X2_gather at hf
  refine R_aload_n dX2_gather_0 rfl rfl ?_
  refine R_iconst dX2_gather_1 (v := 0) rfl ?_
  obtain ⟨M2, hM2, hf⟩ := ltE hf
  refine R_put (ki := 10) dX2_gather_2 cl2 flX2_43 o_66 (Or.inl fz2_10) rfl hM2 ?_
  refine R_iconst dX2_gather_5 (v := 0) rfl ?_
  refine R_istore_n dX2_gather_6 rfl (by decide) rfl rfl ?_
  exact R_subk (rn_X2_gather_L7 4096 _ _ _ _ ho1 hf) ⟨rfl, rfl, rfl, trivial⟩
/-! BracketHall$Mending.isEnd(I)Z -/
def f_X2_isEnd (v1 : Int) (M : Mem) : Option (Int) :=
  if v1 = (M 66 10) then
    some 1
  else
    if v1 < 0 then
      some 0
    else
      if (M 66 10) ≤ v1 then
        some 0
      else
        if (0 : Int) ≤ v1 ∧ v1 < 240 then
        if (M 69 v1) = 0 then
          some 0
        else
          some 1
        else none
set_option maxRecDepth 20000 in
theorem ct_X2_isEnd {G : Gl} (v1 : Int) (M : Mem) {res : Int}  (hf : f_X2_isEnd v1 M = some res) : Ct G miX2_isEnd yX2_isEnd 0 [aR 66, aI v1] M (some (aI res)) M := by
  refine Ct.of (L := [some (aR 66), some (aI v1)]) mwX2_isEnd rfl trivial nle ⟨rfl, rfl, trivial⟩ ?_
  unfold f_X2_isEnd at hf
  refine R_iload_n dX2_isEnd_0 rfl rfl ?_
  refine R_aload_n dX2_isEnd_1 rfl rfl ?_
  refine R_getI (ki := 10) dX2_isEnd_2 cl2 flX2_43 o_66 ff2_10 rfl rfl ?_
  refine R_icmp_eq dX2_isEnd_5 rfl (fun h5 => ?_) (fun h5 => ?_)
  · replace hf := iposE hf h5
    refine R_iconst dX2_isEnd_29 (v := 1) rfl ?_
    refine R_goto dX2_isEnd_30 rfl ?_
    cases hf; exact E_zret dX2_isEnd_34 rfl (by decide) rfl rfl
  · replace hf := inegE hf h5
    refine R_iload_n dX2_isEnd_8 rfl rfl ?_
    refine R_if_lt dX2_isEnd_9 rfl (fun h9 => ?_) (fun h9 => ?_)
    · replace hf := iposE hf h9
      refine R_iconst dX2_isEnd_33 (v := 0) rfl ?_
      cases hf; exact E_zret dX2_isEnd_34 rfl (by decide) rfl rfl
    · replace hf := inegE hf h9
      refine R_iload_n dX2_isEnd_12 rfl rfl ?_
      refine R_aload_n dX2_isEnd_13 rfl rfl ?_
      refine R_getI (ki := 10) dX2_isEnd_14 cl2 flX2_43 o_66 ff2_10 rfl rfl ?_
      refine R_icmp_ge dX2_isEnd_17 rfl (fun h17 => ?_) (fun h17 => ?_)
      · replace hf := iposE hf h17
        refine R_iconst dX2_isEnd_33 (v := 0) rfl ?_
        cases hf; exact E_zret dX2_isEnd_34 rfl (by decide) rfl rfl
      · replace hf := inegE hf h17
        refine R_aload_n dX2_isEnd_20 rfl rfl ?_
        refine R_getR dX2_isEnd_21 cl2 flX2_18 o_66 ff2_2 (fr2_2 _) a_69.1 ?_
        refine R_iload_n dX2_isEnd_24 rfl rfl ?_
        obtain ⟨hg1, hf⟩ := gdE hf
        refine R_zaload dX2_isEnd_25 a_69 hg1.1 hg1.2 rfl ?_
        refine R_if_eq dX2_isEnd_26 rfl (fun h26 => ?_) (fun h26 => ?_)
        · replace hf := iposE hf h26
          refine R_iconst dX2_isEnd_33 (v := 0) rfl ?_
          cases hf; exact E_zret dX2_isEnd_34 rfl (by decide) rfl rfl
        · replace hf := inegE hf h26
          refine R_iconst dX2_isEnd_29 (v := 1) rfl ?_
          refine R_goto dX2_isEnd_30 rfl ?_
          cases hf; exact E_zret dX2_isEnd_34 rfl (by decide) rfl rfl
/-! BracketHall$Mending.spot(II)I -/
def f_X2_spot (v0 : Int) (v1 : Int) (M : Mem) : Option (Int) :=
  some (w32 ((idv (w32 (v1 * (w32 (v1 + 1)))) 2) + v0))
set_option maxRecDepth 20000 in
theorem ct_X2_spot {G : Gl} (v0 : Int) (v1 : Int) (M : Mem) {res : Int}  (hf : f_X2_spot v0 v1 M = some res) : Ct G miX2_spot yX2_spot 0 [aI v0, aI v1] M (some (aI res)) M := by
  refine Ct.of (L := [some (aI v0), some (aI v1)]) mwX2_spot rfl trivial nle ⟨rfl, rfl, trivial⟩ ?_
  unfold f_X2_spot at hf
  refine R_iload_n dX2_spot_0 rfl rfl ?_
  refine R_iload_n dX2_spot_1 rfl rfl ?_
  refine R_iconst dX2_spot_2 (v := 1) rfl ?_
  refine R_iadd dX2_spot_3 rfl ?_
  refine R_imul dX2_spot_4 rfl ?_
  refine R_iconst dX2_spot_5 (v := 2) rfl ?_
  refine R_idiv dX2_spot_6 (by decide) rfl ?_
  refine R_iload_n dX2_spot_7 rfl rfl ?_
  refine R_iadd dX2_spot_8 rfl ?_
  cases hf; exact E_iret dX2_spot_9 rfl rfl rfl
/-! BracketHall$Mending.pairPrice(II)I -/
def f_X2_pairPrice (v1 : Int) (v2 : Int) (M : Mem) : Option (Int) :=
  if (0 : Int) ≤ v1 ∧ v1 < 240 then
  if (0 : Int) ≤ v2 ∧ v2 < 240 then
  if (w32 ((M 68 v1) + 1)) = (M 68 v2) then
    some 0
  else
    some (M 66 15)
  else none
  else none
set_option maxRecDepth 20000 in
theorem ct_X2_pairPrice {G : Gl} (v1 : Int) (v2 : Int) (M : Mem) {res : Int}  (hf : f_X2_pairPrice v1 v2 M = some res) : Ct G miX2_pairPrice yX2_pairPrice 0 [aR 66, aI v1, aI v2] M (some (aI res)) M := by
  refine Ct.of (L := [some (aR 66), some (aI v1), some (aI v2)]) mwX2_pairPrice rfl trivial nle ⟨rfl, rfl, rfl, trivial⟩ ?_
  unfold f_X2_pairPrice at hf
  refine R_aload_n dX2_pairPrice_0 rfl rfl ?_
  refine R_getR dX2_pairPrice_1 cl2 flX2_15 o_66 ff2_1 (fr2_1 _) a_68.1 ?_
  refine R_iload_n dX2_pairPrice_4 rfl rfl ?_
  obtain ⟨hg1, hf⟩ := gdE hf
  refine R_iaload dX2_pairPrice_5 a_68 hg1.1 hg1.2 rfl ?_
  refine R_iconst dX2_pairPrice_6 (v := 1) rfl ?_
  refine R_iadd dX2_pairPrice_7 rfl ?_
  refine R_aload_n dX2_pairPrice_8 rfl rfl ?_
  refine R_getR dX2_pairPrice_9 cl2 flX2_15 o_66 ff2_1 (fr2_1 _) a_68.1 ?_
  refine R_iload_n dX2_pairPrice_12 rfl rfl ?_
  obtain ⟨hg2, hf⟩ := gdE hf
  refine R_iaload dX2_pairPrice_13 a_68 hg2.1 hg2.2 rfl ?_
  refine R_icmp_ne dX2_pairPrice_14 rfl (fun h14 => ?_) (fun h14 => ?_)
  · replace hf := inegE hf h14
    refine R_aload_n dX2_pairPrice_21 rfl rfl ?_
    refine R_getI (ki := 15) dX2_pairPrice_22 cl2 flX2_59 o_66 ff2_15 rfl rfl ?_
    cases hf; exact E_iret dX2_pairPrice_25 rfl rfl rfl
  · replace hf := iposE hf h14
    refine R_iconst dX2_pairPrice_17 (v := 0) rfl ?_
    refine R_goto dX2_pairPrice_18 rfl ?_
    cases hf; exact E_iret dX2_pairPrice_25 rfl rfl rfl
/-! BracketHall$Mending.settle(II)I -/
def f_X2_settle_K124 (v1 : Int) (v3 : Int) (v4 : Int) (v5 : Int) (M : Mem) : Option (Int × Mem) :=
  if (0 : Int) ≤ w32 (v3 + v1) ∧ w32 (v3 + v1) < 29161 then
  lt1 (up M 70 (w32 (v3 + v1)) v4) fun M133 =>
  some (v5, M133)
  else none
def f_X2_settle_L47 : Nat → Int → Int → Int → Int → Int → Int → Int → Mem → Option (Int × Mem)
  | 0, _, _, _, _, _, _, _, _ => none
  | n + 1, v1, v2, v3, v4, v5, v6, v7, M =>
    if v6 = 0 then
      f_X2_settle_K124 v1 v3 v4 v5 M
    else
      if v2 ≤ v7 then
        f_X2_settle_K124 v1 v3 v4 v5 M
      else
        if (0 : Int) ≤ v7 ∧ v7 < 240 then
        if (M 69 v7) = 0 then
          lt1 (w32 (v7 + 1)) fun v7_118 =>
          f_X2_settle_L47 n v1 v2 v3 v4 v5 v6 v7_118 M
        else
          (f_X2_pairPrice v1 v7 M).bind fun p72 =>
          (f_X2_spot (w32 (v1 + 1)) v7 M).bind fun p84 =>
          if (0 : Int) ≤ p84 ∧ p84 < 29161 then
          if (0 : Int) ≤ w32 ((w32 (v3 + v7)) + 1) ∧ w32 ((w32 (v3 + v7)) + 1) < 29161 then
          lt1 (w32 ((w32 (p72 + (M 70 p84))) + (M 70 (w32 ((w32 (v3 + v7)) + 1))))) fun v8_101 =>
          if v4 ≤ v8_101 then
            lt1 (w32 (v7 + 1)) fun v7_118 =>
            f_X2_settle_L47 n v1 v2 v3 v4 v5 v6 v7_118 M
          else
            lt1 (w32 (v7 + 1)) fun v7_118 =>
            f_X2_settle_L47 n v1 v2 v3 v8_101 v7 v6 v7_118 M
          else none
          else none
        else none
def f_X2_settle (v1 : Int) (v2 : Int) (M : Mem) : Option (Int × Mem) :=
  (f_X2_spot 0 v2 M).bind fun p2 =>
  if (0 : Int) ≤ w32 ((w32 (p2 + v1)) + 1) ∧ w32 ((w32 (p2 + v1)) + 1) < 29161 then
  lt1 (w32 ((M 66 13) + (M 70 (w32 ((w32 (p2 + v1)) + 1))))) fun v4_21 =>
  if (0 : Int) ≤ v1 ∧ v1 < 240 then
  if (M 69 v1) = 0 then
    lt1 (w32 (v1 + 1)) fun v7_45 =>
    f_X2_settle_L47 4096 v1 v2 p2 v4_21 (-1) 1 v7_45 M
  else
    lt1 (w32 (v1 + 1)) fun v7_45 =>
    f_X2_settle_L47 4096 v1 v2 p2 v4_21 (-1) 0 v7_45 M
  else none
  else none
set_option maxRecDepth 20000 in
theorem rn_X2_settle_K124 {G : Gl} (v1 : Int) (v3 : Int) (v4 : Int) (v5 : Int) (M : Mem) (res : Int × Mem)  (hf : f_X2_settle_K124 v1 v3 v4 v5 M = some res) : Run G false (rmD 1 0 0) miX2_settle (ZP G (some (aI res.1)) res.2) 0 0 124 [some (aR 66), some (aI v1), none, some (aI v3), some (aI v4), some (aI v5), none, none, none] [] M := by
  unfold f_X2_settle_K124 at hf
  refine R_aload_n dX2_settle_124 rfl rfl ?_
  refine R_getR dX2_settle_125 cl2 flX2_22 o_66 ff2_3 (fr2_3 _) a_70.1 ?_
  refine R_iload_n dX2_settle_128 rfl rfl ?_
  refine R_iload_n dX2_settle_129 rfl rfl ?_
  refine R_iadd dX2_settle_130 rfl ?_
  refine R_iload dX2_settle_131 rfl ?_
  obtain ⟨hg1, hf⟩ := gdE hf
  obtain ⟨M133, hM133, hf⟩ := ltE hf
  refine R_iastore dX2_settle_133 a_70 hg1.1 hg1.2 hM133 ?_
  refine R_iload dX2_settle_134 rfl ?_
  cases hf; exact E_iret dX2_settle_136 rfl rfl rfl
set_option maxRecDepth 20000 in
theorem rn_X2_settle_L47 {G : Gl} : ∀ (n : Nat) (v1 : Int) (v2 : Int) (v3 : Int) (v4 : Int) (v5 : Int) (v6 : Int) (v7 : Int) (M : Mem) (res : Int × Mem),  f_X2_settle_L47 n v1 v2 v3 v4 v5 v6 v7 M = some res → Run G false (rmD 1 0 0) miX2_settle (ZP G (some (aI res.1)) res.2) 0 0 47 [some (aR 66), some (aI v1), some (aI v2), some (aI v3), some (aI v4), some (aI v5), some (aI v6), some (aI v7), none] [] M := by
  intro n
  induction n with
  | zero => intro v1 v2 v3 v4 v5 v6 v7 M res  hf; cases hf
  | succ n ih =>
    intro v1 v2 v3 v4 v5 v6 v7 M res  hf
    rw [f_X2_settle_L47] at hf
    refine R_iload dX2_settle_47 rfl ?_
    refine R_if_eq dX2_settle_49 rfl (fun h49 => ?_) (fun h49 => ?_)
    · replace hf := iposE hf h49
      exact R_subk (rn_X2_settle_K124 _ _ _ _ _ _  hf) ⟨rfl, rfl, rfl, rfl, rfl, trivial⟩
    · replace hf := inegE hf h49
      refine R_iload dX2_settle_52 rfl ?_
      refine R_iload_n dX2_settle_54 rfl rfl ?_
      refine R_icmp_ge dX2_settle_55 rfl (fun h55 => ?_) (fun h55 => ?_)
      · replace hf := iposE hf h55
        exact R_subk (rn_X2_settle_K124 _ _ _ _ _ _  hf) ⟨rfl, rfl, rfl, rfl, rfl, trivial⟩
      · replace hf := inegE hf h55
        refine R_aload_n dX2_settle_58 rfl rfl ?_
        refine R_getR dX2_settle_59 cl2 flX2_18 o_66 ff2_2 (fr2_2 _) a_69.1 ?_
        refine R_iload dX2_settle_62 rfl ?_
        obtain ⟨hg2, hf⟩ := gdE hf
        refine R_zaload dX2_settle_64 a_69 hg2.1 hg2.2 rfl ?_
        refine R_if_eq dX2_settle_65 rfl (fun h65 => ?_) (fun h65 => ?_)
        · replace hf := iposE hf h65
          obtain ⟨v7_118, hv7_118, hf⟩ := ltE hf
          refine R_iinc dX2_settle_118 rfl rfl hv7_118 (by decide) rfl ?_
          refine R_goto dX2_settle_121 rfl ?_
          exact R_subk (ih _ _ _ _ _ _ _ _ _  hf) ⟨rfl, rfl, rfl, rfl, rfl, rfl, rfl, rfl, trivial⟩
        · replace hf := inegE hf h65
          refine R_aload_n dX2_settle_68 rfl rfl ?_
          refine R_iload_n dX2_settle_69 rfl rfl ?_
          refine R_iload dX2_settle_70 rfl ?_
          obtain ⟨p72, hp72, hf⟩ := bdE hf
          refine R_callV (As := [aI v1, aI v7]) (st := []) dX2_settle_72 (ct_X2_pairPrice _ _ _  hp72) mwX2_pairPrice mvX2_pairPrice mlX2_109 cl2 o_66 rfl rfl ⟨nle, nle, nle, nle⟩ nle rfl ?_
          refine R_aload_n dX2_settle_75 rfl rfl ?_
          refine R_getR dX2_settle_76 cl2 flX2_22 o_66 ff2_3 (fr2_3 _) a_70.1 ?_
          refine R_iload_n dX2_settle_79 rfl rfl ?_
          refine R_iconst dX2_settle_80 (v := 1) rfl ?_
          refine R_iadd dX2_settle_81 rfl ?_
          refine R_iload dX2_settle_82 rfl ?_
          obtain ⟨p84, hp84, hf⟩ := bdE hf
          refine R_callS (As := [aI (w32 (v1 + 1)), aI v7]) (st := [aR 70, aI p72]) dX2_settle_84 (ct_X2_spot _ _ _  hp84) mwX2_spot msX2_spot mlX2_85 rfl ⟨nle, nle, nle, nle⟩ nle rfl ?_
          obtain ⟨hg3, hf⟩ := gdE hf
          refine R_iaload dX2_settle_87 a_70 hg3.1 hg3.2 rfl ?_
          refine R_iadd dX2_settle_88 rfl ?_
          refine R_aload_n dX2_settle_89 rfl rfl ?_
          refine R_getR dX2_settle_90 cl2 flX2_22 o_66 ff2_3 (fr2_3 _) a_70.1 ?_
          refine R_iload_n dX2_settle_93 rfl rfl ?_
          refine R_iload dX2_settle_94 rfl ?_
          refine R_iadd dX2_settle_96 rfl ?_
          refine R_iconst dX2_settle_97 (v := 1) rfl ?_
          refine R_iadd dX2_settle_98 rfl ?_
          obtain ⟨hg4, hf⟩ := gdE hf
          refine R_iaload dX2_settle_99 a_70 hg4.1 hg4.2 rfl ?_
          refine R_iadd dX2_settle_100 rfl ?_
          obtain ⟨v8_101, hv8_101, hf⟩ := ltE hf
          refine R_istore dX2_settle_101 (by decide) hv8_101 rfl ?_
          refine R_iload dX2_settle_103 rfl ?_
          refine R_iload dX2_settle_105 rfl ?_
          refine R_icmp_ge dX2_settle_107 rfl (fun h107 => ?_) (fun h107 => ?_)
          · replace hf := iposE hf h107
            obtain ⟨v7_118, hv7_118, hf⟩ := ltE hf
            refine R_iinc dX2_settle_118 rfl rfl hv7_118 (by decide) rfl ?_
            refine R_goto dX2_settle_121 rfl ?_
            exact R_subk (ih _ _ _ _ _ _ _ _ _  hf) ⟨rfl, rfl, rfl, rfl, rfl, rfl, rfl, rfl, trivial⟩
          · replace hf := inegE hf h107
            refine R_iload dX2_settle_110 rfl ?_
            refine R_istore dX2_settle_112 (by decide) rfl rfl ?_
            refine R_iload dX2_settle_114 rfl ?_
            refine R_istore dX2_settle_116 (by decide) rfl rfl ?_
            obtain ⟨v7_118, hv7_118, hf⟩ := ltE hf
            refine R_iinc dX2_settle_118 rfl rfl hv7_118 (by decide) rfl ?_
            refine R_goto dX2_settle_121 rfl ?_
            exact R_subk (ih _ _ _ _ _ _ _ _ _  hf) ⟨rfl, rfl, rfl, rfl, rfl, rfl, rfl, rfl, trivial⟩
set_option maxRecDepth 20000 in
theorem ct_X2_settle {G : Gl} (v1 : Int) (v2 : Int) (M : Mem) {res : Int × Mem}  (hf : f_X2_settle v1 v2 M = some res) : Ct G miX2_settle yX2_settle 1 [aR 66, aI v1, aI v2] M (some (aI res.1)) res.2 := by
  refine Ct.of (L := [some (aR 66), some (aI v1), some (aI v2), none, none, none, none, none, none]) mwX2_settle rfl trivial nle ⟨rfl, rfl, rfl, trivial⟩ ?_
  unfold f_X2_settle at hf
  refine R_iconst dX2_settle_0 (v := 0) rfl ?_
  refine R_iload_n dX2_settle_1 rfl rfl ?_
  obtain ⟨p2, hp2, hf⟩ := bdE hf
  refine R_callS (As := [aI 0, aI v2]) (st := []) dX2_settle_2 (ct_X2_spot _ _ _  hp2) mwX2_spot msX2_spot mlX2_85 rfl ⟨nle, nle, nle, nle⟩ nle rfl ?_
  refine R_istore_n dX2_settle_5 rfl (by decide) rfl rfl ?_
  refine R_aload_n dX2_settle_6 rfl rfl ?_
  refine R_getI (ki := 13) dX2_settle_7 cl2 flX2_53 o_66 ff2_13 rfl rfl ?_
  refine R_aload_n dX2_settle_10 rfl rfl ?_
  refine R_getR dX2_settle_11 cl2 flX2_22 o_66 ff2_3 (fr2_3 _) a_70.1 ?_
  refine R_iload_n dX2_settle_14 rfl rfl ?_
  refine R_iload_n dX2_settle_15 rfl rfl ?_
  refine R_iadd dX2_settle_16 rfl ?_
  refine R_iconst dX2_settle_17 (v := 1) rfl ?_
  refine R_iadd dX2_settle_18 rfl ?_
  obtain ⟨hg5, hf⟩ := gdE hf
  refine R_iaload dX2_settle_19 a_70 hg5.1 hg5.2 rfl ?_
  refine R_iadd dX2_settle_20 rfl ?_
  obtain ⟨v4_21, hv4_21, hf⟩ := ltE hf
  refine R_istore dX2_settle_21 (by decide) hv4_21 rfl ?_
  refine R_iconst dX2_settle_23 (v := (-1)) rfl ?_
  refine R_istore dX2_settle_24 (by decide) rfl rfl ?_
  refine R_aload_n dX2_settle_26 rfl rfl ?_
  refine R_getR dX2_settle_27 cl2 flX2_18 o_66 ff2_2 (fr2_2 _) a_69.1 ?_
  refine R_iload_n dX2_settle_30 rfl rfl ?_
  obtain ⟨hg6, hf⟩ := gdE hf
  refine R_zaload dX2_settle_31 a_69 hg6.1 hg6.2 rfl ?_
  refine R_if_ne dX2_settle_32 rfl (fun h32 => ?_) (fun h32 => ?_)
  · replace hf := inegE hf h32
    refine R_iconst dX2_settle_39 (v := 0) rfl ?_
    refine R_istore dX2_settle_40 (by decide) rfl rfl ?_
    refine R_iload_n dX2_settle_42 rfl rfl ?_
    refine R_iconst dX2_settle_43 (v := 1) rfl ?_
    refine R_iadd dX2_settle_44 rfl ?_
    obtain ⟨v7_45, hv7_45, hf⟩ := ltE hf
    refine R_istore dX2_settle_45 (by decide) hv7_45 rfl ?_
    exact R_subk (rn_X2_settle_L47 4096 _ _ _ _ _ _ _ _ _  hf) ⟨rfl, rfl, rfl, rfl, rfl, rfl, rfl, rfl, trivial⟩
  · replace hf := iposE hf h32
    refine R_iconst dX2_settle_35 (v := 1) rfl ?_
    refine R_goto dX2_settle_36 rfl ?_
    refine R_istore dX2_settle_40 (by decide) rfl rfl ?_
    refine R_iload_n dX2_settle_42 rfl rfl ?_
    refine R_iconst dX2_settle_43 (v := 1) rfl ?_
    refine R_iadd dX2_settle_44 rfl ?_
    obtain ⟨v7_45, hv7_45, hf⟩ := ltE hf
    refine R_istore dX2_settle_45 (by decide) hv7_45 rfl ?_
    exact R_subk (rn_X2_settle_L47 4096 _ _ _ _ _ _ _ _ _  hf) ⟨rfl, rfl, rfl, rfl, rfl, rfl, rfl, rfl, trivial⟩
/-! BracketHall$Mending.costOf(LBracketHall$Reading;)I -/
def f_X2_costOf_L38 (k : Int → Mem → Option (Int × Mem)) : Nat → Int → Int → Mem → Option (Int × Mem)
  | 0, _, _, _ => none
  | n + 1, v2, v3, M =>
    if v3 < 0 then
      k v2 M
    else
      (f_X2_settle v3 v2 M).bind fun p45 =>
      lt1 (w32 (v3 + (-1))) fun v3_49 =>
      f_X2_costOf_L38 k n v2 v3_49 p45.2
def f_X2_costOf_L7 : Nat → Int → Mem → Option (Int × Mem)
  | 0, _, _ => none
  | n + 1, v2, M =>
    if (M 66 10) < v2 then
      (f_X2_spot 0 (M 66 10) M).bind fun p70 =>
      if (0 : Int) ≤ p70 ∧ p70 < 29161 then
      some (M 70 p70, M)
      else none
    else
      (f_X2_isEnd v2 M).bind fun p17 =>
      if p17 = 0 then
        lt1 (w32 (v2 + 1)) fun v2_55 =>
        f_X2_costOf_L7 n v2_55 M
      else
        (f_X2_spot v2 v2 M).bind fun p29 =>
        if (0 : Int) ≤ p29 ∧ p29 < 29161 then
        lt1 (up M 70 p29 0) fun M33 =>
        lt1 (w32 (v2 - 1)) fun v3_37 =>
        f_X2_costOf_L38 (fun v2 M =>
        lt1 (w32 (v2 + 1)) fun v2_55 =>
        f_X2_costOf_L7 n v2_55 M) 4096 v2 v3_37 M33
        else none
def f_X2_costOf (o1 : Nat) (M : Mem) : Option (Int × Mem) :=
  (f_X2_gather o1 M).bind fun p2 =>
  f_X2_costOf_L7 4096 0 p2
set_option maxRecDepth 20000 in
theorem rn_X2_costOf_L38 {G : Gl} (k : Int → Mem → Option (Int × Mem)) (hk : ∀ (v2 : Int) (M : Mem) (res : Int × Mem), k v2 M = some res → Run G false (rmD 2 0 0) miX2_costOf (ZP G (some (aI res.1)) res.2) 0 0 55 [some (aR 66), none, some (aI v2), none] [] M) : ∀ (n : Nat) (v2 : Int) (v3 : Int) (M : Mem) (res : Int × Mem),  f_X2_costOf_L38 k n v2 v3 M = some res → Run G false (rmD 2 0 0) miX2_costOf (ZP G (some (aI res.1)) res.2) 0 0 38 [some (aR 66), none, some (aI v2), some (aI v3)] [] M := by
  intro n
  induction n with
  | zero => intro v2 v3 M res  hf; cases hf
  | succ n ih =>
    intro v2 v3 M res  hf
    rw [f_X2_costOf_L38] at hf
    refine R_iload_n dX2_costOf_38 rfl rfl ?_
    refine R_if_lt dX2_costOf_39 rfl (fun h39 => ?_) (fun h39 => ?_)
    · replace hf := iposE hf h39
      exact R_subk (hk _ _ _  hf) ⟨rfl, rfl, trivial⟩
    · replace hf := inegE hf h39
      refine R_aload_n dX2_costOf_42 rfl rfl ?_
      refine R_iload_n dX2_costOf_43 rfl rfl ?_
      refine R_iload_n dX2_costOf_44 rfl rfl ?_
      obtain ⟨p45, hp45, hf⟩ := bdE hf
      refine R_callV (As := [aI v3, aI v2]) (st := []) dX2_costOf_45 (ct_X2_settle _ _ _  hp45) mwX2_settle mvX2_settle mlX2_88 cl2 o_66 rfl rfl ⟨nle, nle, nle, nle⟩ nle rfl ?_
      refine R_popI dX2_costOf_48 ?_
      obtain ⟨v3_49, hv3_49, hf⟩ := ltE hf
      refine R_iinc dX2_costOf_49 rfl rfl hv3_49 (by decide) rfl ?_
      refine R_goto dX2_costOf_52 rfl ?_
      exact R_subk (ih _ _ _ _  hf) ⟨rfl, rfl, rfl, trivial⟩
set_option maxRecDepth 20000 in
theorem rn_X2_costOf_L7 {G : Gl} : ∀ (n : Nat) (v2 : Int) (M : Mem) (res : Int × Mem),  f_X2_costOf_L7 n v2 M = some res → Run G false (rmD 2 0 0) miX2_costOf (ZP G (some (aI res.1)) res.2) 0 0 7 [some (aR 66), none, some (aI v2), none] [] M := by
  intro n
  induction n with
  | zero => intro v2 M res  hf; cases hf
  | succ n ih =>
    intro v2 M res  hf
    rw [f_X2_costOf_L7] at hf
    refine R_iload_n dX2_costOf_7 rfl rfl ?_
    refine R_aload_n dX2_costOf_8 rfl rfl ?_
    refine R_getI (ki := 10) dX2_costOf_9 cl2 flX2_43 o_66 ff2_10 rfl rfl ?_
    refine R_icmp_gt dX2_costOf_12 rfl (fun h12 => ?_) (fun h12 => ?_)
    · replace hf := iposE hf h12
      refine R_aload_n dX2_costOf_61 rfl rfl ?_
      refine R_getR dX2_costOf_62 cl2 flX2_22 o_66 ff2_3 (fr2_3 _) a_70.1 ?_
      refine R_iconst dX2_costOf_65 (v := 0) rfl ?_
      refine R_aload_n dX2_costOf_66 rfl rfl ?_
      refine R_getI (ki := 10) dX2_costOf_67 cl2 flX2_43 o_66 ff2_10 rfl rfl ?_
      obtain ⟨p70, hp70, hf⟩ := bdE hf
      refine R_callS (As := [aI 0, aI (M 66 10)]) (st := [aR 70]) dX2_costOf_70 (ct_X2_spot _ _ _  hp70) mwX2_spot msX2_spot mlX2_85 rfl ⟨nle, nle, nle, nle⟩ nle rfl ?_
      obtain ⟨hg1, hf⟩ := gdE hf
      refine R_iaload dX2_costOf_73 a_70 hg1.1 hg1.2 rfl ?_
      cases hf; exact E_iret dX2_costOf_74 rfl rfl rfl
    · replace hf := inegE hf h12
      refine R_aload_n dX2_costOf_15 rfl rfl ?_
      refine R_iload_n dX2_costOf_16 rfl rfl ?_
      obtain ⟨p17, hp17, hf⟩ := bdE hf
      refine R_callV (As := [aI v2]) (st := []) dX2_costOf_17 (ct_X2_isEnd _ _  hp17) mwX2_isEnd mvX2_isEnd mlX2_81 cl2 o_66 rfl rfl ⟨nle, nle, nle, nle⟩ nle rfl ?_
      refine R_if_eq dX2_costOf_20 rfl (fun h20 => ?_) (fun h20 => ?_)
      · replace hf := iposE hf h20
        obtain ⟨v2_55, hv2_55, hf⟩ := ltE hf
        refine R_iinc dX2_costOf_55 rfl rfl hv2_55 (by decide) rfl ?_
        refine R_goto dX2_costOf_58 rfl ?_
        exact R_subk (ih _ _ _  hf) ⟨rfl, rfl, trivial⟩
      · replace hf := inegE hf h20
        refine R_aload_n dX2_costOf_23 rfl rfl ?_
        refine R_getR dX2_costOf_24 cl2 flX2_22 o_66 ff2_3 (fr2_3 _) a_70.1 ?_
        refine R_iload_n dX2_costOf_27 rfl rfl ?_
        refine R_iload_n dX2_costOf_28 rfl rfl ?_
        obtain ⟨p29, hp29, hf⟩ := bdE hf
        refine R_callS (As := [aI v2, aI v2]) (st := [aR 70]) dX2_costOf_29 (ct_X2_spot _ _ _  hp29) mwX2_spot msX2_spot mlX2_85 rfl ⟨nle, nle, nle, nle⟩ nle rfl ?_
        refine R_iconst dX2_costOf_32 (v := 0) rfl ?_
        obtain ⟨hg2, hf⟩ := gdE hf
        obtain ⟨M33, hM33, hf⟩ := ltE hf
        refine R_iastore dX2_costOf_33 a_70 hg2.1 hg2.2 hM33 ?_
        refine R_iload_n dX2_costOf_34 rfl rfl ?_
        refine R_iconst dX2_costOf_35 (v := 1) rfl ?_
        refine R_isub dX2_costOf_36 rfl ?_
        obtain ⟨v3_37, hv3_37, hf⟩ := ltE hf
        refine R_istore_n dX2_costOf_37 rfl (by decide) hv3_37 rfl ?_
        refine R_subk (rn_X2_costOf_L38 _ (fun v2 M res  hf => ?_) 4096 _ _ _ _  hf) ⟨rfl, rfl, rfl, trivial⟩
        obtain ⟨v2_55, hv2_55, hf⟩ := ltE hf
        refine R_iinc dX2_costOf_55 rfl rfl hv2_55 (by decide) rfl ?_
        refine R_goto dX2_costOf_58 rfl ?_
        exact R_subk (ih _ _ _  hf) ⟨rfl, rfl, trivial⟩
set_option maxRecDepth 20000 in
theorem ct_X2_costOf {G : Gl} (o1 : Nat) (M : Mem) {res : Int × Mem} (ho1 : isO 5 o1) (hf : f_X2_costOf o1 M = some res) : Ct G miX2_costOf yX2_costOf 2 [aR 66, aR o1] M (some (aI res.1)) res.2 := by
  refine Ct.of (L := [some (aR 66), some (aR o1), none, none]) mwX2_costOf rfl trivial nle ⟨rfl, rfl, trivial⟩ ?_
  unfold f_X2_costOf at hf
  refine R_aload_n dX2_costOf_0 rfl rfl ?_
  refine R_aload_n dX2_costOf_1 rfl rfl ?_
  obtain ⟨p2, hp2, hf⟩ := bdE hf
  refine R_callV (As := [aR o1]) (st := []) dX2_costOf_2 (ct_X2_gather _ _ ho1 hp2) mwX2_gather mvX2_gather mlX2_77 cl2 o_66 rfl rfl ⟨nle, nle, nle, nle⟩ nle rfl ?_
  refine R_iconst dX2_costOf_5 (v := 0) rfl ?_
  refine R_istore_n dX2_costOf_6 rfl (by decide) rfl rfl ?_
  exact R_subk (rn_X2_costOf_L7 4096 _ _ _  hf) ⟨rfl, rfl, trivial⟩
/-! BracketHall$Mending.settleSpared(II)V -/
def f_X2_settleSpared_L74 : Nat → Int → Int → Int → Int → Int → Int → Mem → Option (Mem)
  | 0, _, _, _, _, _, _, _ => none
  | n + 1, v1, v2, v3, v4, v5, v6, M =>
    if v5 = 0 then
      if (0 : Int) ≤ w32 (v3 + v1) ∧ w32 (v3 + v1) < 29161 then
      lt1 (up M 71 (w32 (v3 + v1)) v4) fun M200 =>
      some M200
      else none
    else
      if v2 ≤ v6 then
        if (0 : Int) ≤ w32 (v3 + v1) ∧ w32 (v3 + v1) < 29161 then
        lt1 (up M 71 (w32 (v3 + v1)) v4) fun M200 =>
        some M200
        else none
      else
        if (0 : Int) ≤ v6 ∧ v6 < 240 then
        if (M 69 v6) = 0 then
          lt1 (w32 (v6 + 1)) fun v6_185 =>
          f_X2_settleSpared_L74 n v1 v2 v3 v4 v5 v6_185 M
        else
          (f_X2_spot (w32 (v1 + 1)) v6 M).bind fun p100 =>
          (f_X2_pairPrice v1 v6 M).bind fun p109 =>
          (f_X2_placed p109 0 M).bind fun p113 =>
          if (0 : Int) ≤ p100 ∧ p100 < 29161 then
          if (0 : Int) ≤ w32 ((w32 (v3 + v6)) + 1) ∧ w32 ((w32 (v3 + v6)) + 1) < 29161 then
          (f_X2_placed (M 70 (w32 ((w32 (v3 + v6)) + 1))) 0 M).bind fun p137 =>
          lt1 (w32 ((M 71 p100) + p137)) fun v9_141 =>
          (f_X2_placed (M 70 p100) 0 M).bind fun p151 =>
          lt1 (w32 (p151 + (M 71 (w32 ((w32 (v3 + v6)) + 1))))) fun v10_166 =>
          lt1 (if v10_166 < v9_141 then v10_166 else v9_141) fun x176 =>
          lt1 (if (w32 (p113 + x176)) < v4 then w32 (p113 + x176) else v4) fun x180 =>
          lt1 (w32 (v6 + 1)) fun v6_185 =>
          f_X2_settleSpared_L74 n v1 v2 v3 x180 v5 v6_185 M
          else none
          else none
        else none
def f_X2_settleSpared (v1 : Int) (v2 : Int) (M : Mem) : Option (Mem) :=
  (f_X2_spot 0 v2 M).bind fun p2 =>
  if (0 : Int) ≤ w32 ((w32 (p2 + v1)) + 1) ∧ w32 ((w32 (p2 + v1)) + 1) < 29161 then
  if (0 : Int) ≤ v1 ∧ v1 < 240 then
  (f_X2_placed (M 70 (w32 ((w32 (p2 + v1)) + 1))) (M 67 v1) M).bind fun p22 =>
  (f_X2_placed (M 66 13) 0 M).bind fun p34 =>
  lt1 (if (w32 (p34 + (M 71 (w32 ((w32 (p2 + v1)) + 1))))) < p22 then w32 (p34 + (M 71 (w32 ((w32 (p2 + v1)) + 1)))) else p22) fun x48 =>
  if (M 69 v1) = 0 then
    lt1 (w32 (v1 + 1)) fun v6_72 =>
    f_X2_settleSpared_L74 4096 v1 v2 p2 x48 1 v6_72 M
  else
    lt1 (w32 (v1 + 1)) fun v6_72 =>
    f_X2_settleSpared_L74 4096 v1 v2 p2 x48 0 v6_72 M
  else none
  else none
set_option maxRecDepth 20000 in
theorem rn_X2_settleSpared_L74 {G : Gl} : ∀ (n : Nat) (v1 : Int) (v2 : Int) (v3 : Int) (v4 : Int) (v5 : Int) (v6 : Int) (M : Mem) (res : Mem),  f_X2_settleSpared_L74 n v1 v2 v3 v4 v5 v6 M = some res → Run G false (rmD 1 0 0) miX2_settleSpared (ZP G none res) 0 0 74 [some (aR 66), some (aI v1), some (aI v2), some (aI v3), some (aI v4), some (aI v5), some (aI v6), none, none, none, none] [] M := by
  intro n
  induction n with
  | zero => intro v1 v2 v3 v4 v5 v6 M res  hf; cases hf
  | succ n ih =>
    intro v1 v2 v3 v4 v5 v6 M res  hf
    rw [f_X2_settleSpared_L74] at hf
    refine R_iload dX2_settleSpared_74 rfl ?_
    refine R_if_eq dX2_settleSpared_76 rfl (fun h76 => ?_) (fun h76 => ?_)
    · replace hf := iposE hf h76
      refine R_aload_n dX2_settleSpared_191 rfl rfl ?_
      refine R_getR dX2_settleSpared_192 cl2 flX2_25 o_66 ff2_4 (fr2_4 _) a_71.1 ?_
      refine R_iload_n dX2_settleSpared_195 rfl rfl ?_
      refine R_iload_n dX2_settleSpared_196 rfl rfl ?_
      refine R_iadd dX2_settleSpared_197 rfl ?_
      refine R_iload dX2_settleSpared_198 rfl ?_
      obtain ⟨hg1, hf⟩ := gdE hf
      obtain ⟨M200, hM200, hf⟩ := ltE hf
      refine R_iastore dX2_settleSpared_200 a_71 hg1.1 hg1.2 hM200 ?_
      cases hf; exact E_vret dX2_settleSpared_201 rfl rfl rfl
    · replace hf := inegE hf h76
      refine R_iload dX2_settleSpared_79 rfl ?_
      refine R_iload_n dX2_settleSpared_81 rfl rfl ?_
      refine R_icmp_ge dX2_settleSpared_82 rfl (fun h82 => ?_) (fun h82 => ?_)
      · replace hf := iposE hf h82
        refine R_aload_n dX2_settleSpared_191 rfl rfl ?_
        refine R_getR dX2_settleSpared_192 cl2 flX2_25 o_66 ff2_4 (fr2_4 _) a_71.1 ?_
        refine R_iload_n dX2_settleSpared_195 rfl rfl ?_
        refine R_iload_n dX2_settleSpared_196 rfl rfl ?_
        refine R_iadd dX2_settleSpared_197 rfl ?_
        refine R_iload dX2_settleSpared_198 rfl ?_
        obtain ⟨hg2, hf⟩ := gdE hf
        obtain ⟨M200, hM200, hf⟩ := ltE hf
        refine R_iastore dX2_settleSpared_200 a_71 hg2.1 hg2.2 hM200 ?_
        cases hf; exact E_vret dX2_settleSpared_201 rfl rfl rfl
      · replace hf := inegE hf h82
        refine R_aload_n dX2_settleSpared_85 rfl rfl ?_
        refine R_getR dX2_settleSpared_86 cl2 flX2_18 o_66 ff2_2 (fr2_2 _) a_69.1 ?_
        refine R_iload dX2_settleSpared_89 rfl ?_
        obtain ⟨hg3, hf⟩ := gdE hf
        refine R_zaload dX2_settleSpared_91 a_69 hg3.1 hg3.2 rfl ?_
        refine R_if_eq dX2_settleSpared_92 rfl (fun h92 => ?_) (fun h92 => ?_)
        · replace hf := iposE hf h92
          obtain ⟨v6_185, hv6_185, hf⟩ := ltE hf
          refine R_iinc dX2_settleSpared_185 rfl rfl hv6_185 (by decide) rfl ?_
          refine R_goto dX2_settleSpared_188 rfl ?_
          exact R_subk (ih _ _ _ _ _ _ _ _  hf) ⟨rfl, rfl, rfl, rfl, rfl, rfl, rfl, trivial⟩
        · replace hf := inegE hf h92
          refine R_iload_n dX2_settleSpared_95 rfl rfl ?_
          refine R_iconst dX2_settleSpared_96 (v := 1) rfl ?_
          refine R_iadd dX2_settleSpared_97 rfl ?_
          refine R_iload dX2_settleSpared_98 rfl ?_
          obtain ⟨p100, hp100, hf⟩ := bdE hf
          refine R_callS (As := [aI (w32 (v1 + 1)), aI v6]) (st := []) dX2_settleSpared_100 (ct_X2_spot _ _ _  hp100) mwX2_spot msX2_spot mlX2_85 rfl ⟨nle, nle, nle, nle⟩ nle rfl ?_
          refine R_istore dX2_settleSpared_103 (by decide) rfl rfl ?_
          refine R_aload_n dX2_settleSpared_105 rfl rfl ?_
          refine R_iload_n dX2_settleSpared_106 rfl rfl ?_
          refine R_iload dX2_settleSpared_107 rfl ?_
          obtain ⟨p109, hp109, hf⟩ := bdE hf
          refine R_callV (As := [aI v1, aI v6]) (st := []) dX2_settleSpared_109 (ct_X2_pairPrice _ _ _  hp109) mwX2_pairPrice mvX2_pairPrice mlX2_109 cl2 o_66 rfl rfl ⟨nle, nle, nle, nle⟩ nle rfl ?_
          refine R_iconst dX2_settleSpared_112 (v := 0) rfl ?_
          obtain ⟨p113, hp113, hf⟩ := bdE hf
          refine R_callS (As := [aI p109, aI 0]) (st := []) dX2_settleSpared_113 (ct_X2_placed _ _ _  hp113) mwX2_placed msX2_placed mlX2_112 rfl ⟨nle, nle, nle, nle⟩ nle rfl ?_
          refine R_istore dX2_settleSpared_116 (by decide) rfl rfl ?_
          refine R_aload_n dX2_settleSpared_118 rfl rfl ?_
          refine R_getR dX2_settleSpared_119 cl2 flX2_25 o_66 ff2_4 (fr2_4 _) a_71.1 ?_
          refine R_iload dX2_settleSpared_122 rfl ?_
          obtain ⟨hg4, hf⟩ := gdE hf
          refine R_iaload dX2_settleSpared_124 a_71 hg4.1 hg4.2 rfl ?_
          refine R_aload_n dX2_settleSpared_125 rfl rfl ?_
          refine R_getR dX2_settleSpared_126 cl2 flX2_22 o_66 ff2_3 (fr2_3 _) a_70.1 ?_
          refine R_iload_n dX2_settleSpared_129 rfl rfl ?_
          refine R_iload dX2_settleSpared_130 rfl ?_
          refine R_iadd dX2_settleSpared_132 rfl ?_
          refine R_iconst dX2_settleSpared_133 (v := 1) rfl ?_
          refine R_iadd dX2_settleSpared_134 rfl ?_
          obtain ⟨hg5, hf⟩ := gdE hf
          refine R_iaload dX2_settleSpared_135 a_70 hg5.1 hg5.2 rfl ?_
          refine R_iconst dX2_settleSpared_136 (v := 0) rfl ?_
          obtain ⟨p137, hp137, hf⟩ := bdE hf
          refine R_callS (As := [aI (M 70 (w32 ((w32 (v3 + v6)) + 1))), aI 0]) (st := [aI (M 71 p100)]) dX2_settleSpared_137 (ct_X2_placed _ _ _  hp137) mwX2_placed msX2_placed mlX2_112 rfl ⟨nle, nle, nle, nle⟩ nle rfl ?_
          refine R_iadd dX2_settleSpared_140 rfl ?_
          obtain ⟨v9_141, hv9_141, hf⟩ := ltE hf
          refine R_istore dX2_settleSpared_141 (by decide) hv9_141 rfl ?_
          refine R_aload_n dX2_settleSpared_143 rfl rfl ?_
          refine R_getR dX2_settleSpared_144 cl2 flX2_22 o_66 ff2_3 (fr2_3 _) a_70.1 ?_
          refine R_iload dX2_settleSpared_147 rfl ?_
          refine R_iaload dX2_settleSpared_149 a_70 hg4.1 hg4.2 rfl ?_
          refine R_iconst dX2_settleSpared_150 (v := 0) rfl ?_
          obtain ⟨p151, hp151, hf⟩ := bdE hf
          refine R_callS (As := [aI (M 70 p100), aI 0]) (st := []) dX2_settleSpared_151 (ct_X2_placed _ _ _  hp151) mwX2_placed msX2_placed mlX2_112 rfl ⟨nle, nle, nle, nle⟩ nle rfl ?_
          refine R_aload_n dX2_settleSpared_154 rfl rfl ?_
          refine R_getR dX2_settleSpared_155 cl2 flX2_25 o_66 ff2_4 (fr2_4 _) a_71.1 ?_
          refine R_iload_n dX2_settleSpared_158 rfl rfl ?_
          refine R_iload dX2_settleSpared_159 rfl ?_
          refine R_iadd dX2_settleSpared_161 rfl ?_
          refine R_iconst dX2_settleSpared_162 (v := 1) rfl ?_
          refine R_iadd dX2_settleSpared_163 rfl ?_
          refine R_iaload dX2_settleSpared_164 a_71 hg5.1 hg5.2 rfl ?_
          refine R_iadd dX2_settleSpared_165 rfl ?_
          obtain ⟨v10_166, hv10_166, hf⟩ := ltE hf
          refine R_istore dX2_settleSpared_166 (by decide) hv10_166 rfl ?_
          refine R_iload dX2_settleSpared_168 rfl ?_
          refine R_iload dX2_settleSpared_170 rfl ?_
          refine R_iload dX2_settleSpared_172 rfl ?_
          refine R_iload dX2_settleSpared_174 rfl ?_
          obtain ⟨x176, hx176, hf⟩ := ltE hf
          refine R_min dX2_settleSpared_176 jlX2_70 jw_min ⟨nle, nle, nle, nle⟩ nle hx176 ?_
          refine R_iadd dX2_settleSpared_179 rfl ?_
          obtain ⟨x180, hx180, hf⟩ := ltE hf
          refine R_min dX2_settleSpared_180 jlX2_70 jw_min ⟨nle, nle, nle, nle⟩ nle hx180 ?_
          refine R_istore dX2_settleSpared_183 (by decide) rfl rfl ?_
          obtain ⟨v6_185, hv6_185, hf⟩ := ltE hf
          refine R_iinc dX2_settleSpared_185 rfl rfl hv6_185 (by decide) rfl ?_
          refine R_goto dX2_settleSpared_188 rfl ?_
          exact R_subk (ih _ _ _ _ _ _ _ _  hf) ⟨rfl, rfl, rfl, rfl, rfl, rfl, rfl, trivial⟩
set_option maxRecDepth 20000 in
theorem ct_X2_settleSpared {G : Gl} (v1 : Int) (v2 : Int) (M : Mem) {res : Mem}  (hf : f_X2_settleSpared v1 v2 M = some res) : Ct G miX2_settleSpared yX2_settleSpared 1 [aR 66, aI v1, aI v2] M none res := by
  refine Ct.of (L := [some (aR 66), some (aI v1), some (aI v2), none, none, none, none, none, none, none, none]) mwX2_settleSpared rfl trivial nle ⟨rfl, rfl, rfl, trivial⟩ ?_
  unfold f_X2_settleSpared at hf
  refine R_iconst dX2_settleSpared_0 (v := 0) rfl ?_
  refine R_iload_n dX2_settleSpared_1 rfl rfl ?_
  obtain ⟨p2, hp2, hf⟩ := bdE hf
  refine R_callS (As := [aI 0, aI v2]) (st := []) dX2_settleSpared_2 (ct_X2_spot _ _ _  hp2) mwX2_spot msX2_spot mlX2_85 rfl ⟨nle, nle, nle, nle⟩ nle rfl ?_
  refine R_istore_n dX2_settleSpared_5 rfl (by decide) rfl rfl ?_
  refine R_aload_n dX2_settleSpared_6 rfl rfl ?_
  refine R_getR dX2_settleSpared_7 cl2 flX2_22 o_66 ff2_3 (fr2_3 _) a_70.1 ?_
  refine R_iload_n dX2_settleSpared_10 rfl rfl ?_
  refine R_iload_n dX2_settleSpared_11 rfl rfl ?_
  refine R_iadd dX2_settleSpared_12 rfl ?_
  refine R_iconst dX2_settleSpared_13 (v := 1) rfl ?_
  refine R_iadd dX2_settleSpared_14 rfl ?_
  obtain ⟨hg6, hf⟩ := gdE hf
  refine R_iaload dX2_settleSpared_15 a_70 hg6.1 hg6.2 rfl ?_
  refine R_aload_n dX2_settleSpared_16 rfl rfl ?_
  refine R_getR dX2_settleSpared_17 cl2 flX2_9 o_66 ff2_0 (fr2_0 _) a_67.1 ?_
  refine R_iload_n dX2_settleSpared_20 rfl rfl ?_
  obtain ⟨hg7, hf⟩ := gdE hf
  refine R_iaload dX2_settleSpared_21 a_67 hg7.1 hg7.2 rfl ?_
  obtain ⟨p22, hp22, hf⟩ := bdE hf
  refine R_callS (As := [aI (M 70 (w32 ((w32 (p2 + v1)) + 1))), aI (M 67 v1)]) (st := []) dX2_settleSpared_22 (ct_X2_placed _ _ _  hp22) mwX2_placed msX2_placed mlX2_112 rfl ⟨nle, nle, nle, nle⟩ nle rfl ?_
  refine R_istore dX2_settleSpared_25 (by decide) rfl rfl ?_
  refine R_iload dX2_settleSpared_27 rfl ?_
  refine R_aload_n dX2_settleSpared_29 rfl rfl ?_
  refine R_getI (ki := 13) dX2_settleSpared_30 cl2 flX2_53 o_66 ff2_13 rfl rfl ?_
  refine R_iconst dX2_settleSpared_33 (v := 0) rfl ?_
  obtain ⟨p34, hp34, hf⟩ := bdE hf
  refine R_callS (As := [aI (M 66 13), aI 0]) (st := [aI p22]) dX2_settleSpared_34 (ct_X2_placed _ _ _  hp34) mwX2_placed msX2_placed mlX2_112 rfl ⟨nle, nle, nle, nle⟩ nle rfl ?_
  refine R_aload_n dX2_settleSpared_37 rfl rfl ?_
  refine R_getR dX2_settleSpared_38 cl2 flX2_25 o_66 ff2_4 (fr2_4 _) a_71.1 ?_
  refine R_iload_n dX2_settleSpared_41 rfl rfl ?_
  refine R_iload_n dX2_settleSpared_42 rfl rfl ?_
  refine R_iadd dX2_settleSpared_43 rfl ?_
  refine R_iconst dX2_settleSpared_44 (v := 1) rfl ?_
  refine R_iadd dX2_settleSpared_45 rfl ?_
  refine R_iaload dX2_settleSpared_46 a_71 hg6.1 hg6.2 rfl ?_
  refine R_iadd dX2_settleSpared_47 rfl ?_
  obtain ⟨x48, hx48, hf⟩ := ltE hf
  refine R_min dX2_settleSpared_48 jlX2_70 jw_min ⟨nle, nle, nle, nle⟩ nle hx48 ?_
  refine R_istore dX2_settleSpared_51 (by decide) rfl rfl ?_
  refine R_aload_n dX2_settleSpared_53 rfl rfl ?_
  refine R_getR dX2_settleSpared_54 cl2 flX2_18 o_66 ff2_2 (fr2_2 _) a_69.1 ?_
  refine R_iload_n dX2_settleSpared_57 rfl rfl ?_
  refine R_zaload dX2_settleSpared_58 a_69 hg7.1 hg7.2 rfl ?_
  refine R_if_ne dX2_settleSpared_59 rfl (fun h59 => ?_) (fun h59 => ?_)
  · replace hf := inegE hf h59
    refine R_iconst dX2_settleSpared_66 (v := 0) rfl ?_
    refine R_istore dX2_settleSpared_67 (by decide) rfl rfl ?_
    refine R_iload_n dX2_settleSpared_69 rfl rfl ?_
    refine R_iconst dX2_settleSpared_70 (v := 1) rfl ?_
    refine R_iadd dX2_settleSpared_71 rfl ?_
    obtain ⟨v6_72, hv6_72, hf⟩ := ltE hf
    refine R_istore dX2_settleSpared_72 (by decide) hv6_72 rfl ?_
    exact R_subk (rn_X2_settleSpared_L74 4096 _ _ _ _ _ _ _ _  hf) ⟨rfl, rfl, rfl, rfl, rfl, rfl, rfl, trivial⟩
  · replace hf := iposE hf h59
    refine R_iconst dX2_settleSpared_62 (v := 1) rfl ?_
    refine R_goto dX2_settleSpared_63 rfl ?_
    refine R_istore dX2_settleSpared_67 (by decide) rfl rfl ?_
    refine R_iload_n dX2_settleSpared_69 rfl rfl ?_
    refine R_iconst dX2_settleSpared_70 (v := 1) rfl ?_
    refine R_iadd dX2_settleSpared_71 rfl ?_
    obtain ⟨v6_72, hv6_72, hf⟩ := ltE hf
    refine R_istore dX2_settleSpared_72 (by decide) hv6_72 rfl ?_
    exact R_subk (rn_X2_settleSpared_L74 4096 _ _ _ _ _ _ _ _  hf) ⟨rfl, rfl, rfl, rfl, rfl, rfl, rfl, trivial⟩
/-! BracketHall$Mending.leastSpared(LBracketHall$Reading;)I -/
def f_X2_leastSpared_L40 (k : Int → Mem → Option (Int × Mem)) : Nat → Int → Int → Mem → Option (Int × Mem)
  | 0, _, _, _ => none
  | n + 1, v2, v3, M =>
    if v3 < 0 then
      k v2 M
    else
      (f_X2_settleSpared v3 v2 M).bind fun p47 =>
      lt1 (w32 (v3 + (-1))) fun v3_50 =>
      f_X2_leastSpared_L40 k n v2 v3_50 p47
def f_X2_leastSpared_L8 : Nat → Int → Mem → Option (Int × Mem)
  | 0, _, _ => none
  | n + 1, v2, M =>
    if (M 66 10) < v2 then
      (f_X2_spot 0 (M 66 10) M).bind fun p71 =>
      if (0 : Int) ≤ p71 ∧ p71 < 29161 then
      some (M 71 p71, M)
      else none
    else
      (f_X2_isEnd v2 M).bind fun p18 =>
      if p18 = 0 then
        lt1 (w32 (v2 + 1)) fun v2_56 =>
        f_X2_leastSpared_L8 n v2_56 M
      else
        (f_X2_spot v2 v2 M).bind fun p30 =>
        if (0 : Int) ≤ p30 ∧ p30 < 29161 then
        lt1 (up M 71 p30 268435456) fun M35 =>
        lt1 (w32 (v2 - 1)) fun v3_39 =>
        f_X2_leastSpared_L40 (fun v2 M =>
        lt1 (w32 (v2 + 1)) fun v2_56 =>
        f_X2_leastSpared_L8 n v2_56 M) 4096 v2 v3_39 M35
        else none
def f_X2_leastSpared (o1 : Nat) (M : Mem) : Option (Int × Mem) :=
  (f_X2_costOf o1 M).bind fun p2 =>
  f_X2_leastSpared_L8 4096 0 p2.2
set_option maxRecDepth 20000 in
theorem rn_X2_leastSpared_L40 {G : Gl} (k : Int → Mem → Option (Int × Mem)) (hk : ∀ (v2 : Int) (M : Mem) (res : Int × Mem), k v2 M = some res → Run G false (rmD 3 0 0) miX2_leastSpared (ZP G (some (aI res.1)) res.2) 0 0 56 [some (aR 66), none, some (aI v2), none] [] M) : ∀ (n : Nat) (v2 : Int) (v3 : Int) (M : Mem) (res : Int × Mem),  f_X2_leastSpared_L40 k n v2 v3 M = some res → Run G false (rmD 3 0 0) miX2_leastSpared (ZP G (some (aI res.1)) res.2) 0 0 40 [some (aR 66), none, some (aI v2), some (aI v3)] [] M := by
  intro n
  induction n with
  | zero => intro v2 v3 M res  hf; cases hf
  | succ n ih =>
    intro v2 v3 M res  hf
    rw [f_X2_leastSpared_L40] at hf
    refine R_iload_n dX2_leastSpared_40 rfl rfl ?_
    refine R_if_lt dX2_leastSpared_41 rfl (fun h41 => ?_) (fun h41 => ?_)
    · replace hf := iposE hf h41
      exact R_subk (hk _ _ _  hf) ⟨rfl, rfl, trivial⟩
    · replace hf := inegE hf h41
      refine R_aload_n dX2_leastSpared_44 rfl rfl ?_
      refine R_iload_n dX2_leastSpared_45 rfl rfl ?_
      refine R_iload_n dX2_leastSpared_46 rfl rfl ?_
      obtain ⟨p47, hp47, hf⟩ := bdE hf
      refine R_callV (As := [aI v3, aI v2]) (st := []) dX2_leastSpared_47 (ct_X2_settleSpared _ _ _  hp47) mwX2_settleSpared mvX2_settleSpared mlX2_96 cl2 o_66 rfl rfl ⟨nle, nle, nle, nle⟩ nle rfl ?_
      obtain ⟨v3_50, hv3_50, hf⟩ := ltE hf
      refine R_iinc dX2_leastSpared_50 rfl rfl hv3_50 (by decide) rfl ?_
      refine R_goto dX2_leastSpared_53 rfl ?_
      exact R_subk (ih _ _ _ _  hf) ⟨rfl, rfl, rfl, trivial⟩
set_option maxRecDepth 20000 in
theorem rn_X2_leastSpared_L8 {G : Gl} : ∀ (n : Nat) (v2 : Int) (M : Mem) (res : Int × Mem),  f_X2_leastSpared_L8 n v2 M = some res → Run G false (rmD 3 0 0) miX2_leastSpared (ZP G (some (aI res.1)) res.2) 0 0 8 [some (aR 66), none, some (aI v2), none] [] M := by
  intro n
  induction n with
  | zero => intro v2 M res  hf; cases hf
  | succ n ih =>
    intro v2 M res  hf
    rw [f_X2_leastSpared_L8] at hf
    refine R_iload_n dX2_leastSpared_8 rfl rfl ?_
    refine R_aload_n dX2_leastSpared_9 rfl rfl ?_
    refine R_getI (ki := 10) dX2_leastSpared_10 cl2 flX2_43 o_66 ff2_10 rfl rfl ?_
    refine R_icmp_gt dX2_leastSpared_13 rfl (fun h13 => ?_) (fun h13 => ?_)
    · replace hf := iposE hf h13
      refine R_aload_n dX2_leastSpared_62 rfl rfl ?_
      refine R_getR dX2_leastSpared_63 cl2 flX2_25 o_66 ff2_4 (fr2_4 _) a_71.1 ?_
      refine R_iconst dX2_leastSpared_66 (v := 0) rfl ?_
      refine R_aload_n dX2_leastSpared_67 rfl rfl ?_
      refine R_getI (ki := 10) dX2_leastSpared_68 cl2 flX2_43 o_66 ff2_10 rfl rfl ?_
      obtain ⟨p71, hp71, hf⟩ := bdE hf
      refine R_callS (As := [aI 0, aI (M 66 10)]) (st := [aR 71]) dX2_leastSpared_71 (ct_X2_spot _ _ _  hp71) mwX2_spot msX2_spot mlX2_85 rfl ⟨nle, nle, nle, nle⟩ nle rfl ?_
      obtain ⟨hg1, hf⟩ := gdE hf
      refine R_iaload dX2_leastSpared_74 a_71 hg1.1 hg1.2 rfl ?_
      cases hf; exact E_iret dX2_leastSpared_75 rfl rfl rfl
    · replace hf := inegE hf h13
      refine R_aload_n dX2_leastSpared_16 rfl rfl ?_
      refine R_iload_n dX2_leastSpared_17 rfl rfl ?_
      obtain ⟨p18, hp18, hf⟩ := bdE hf
      refine R_callV (As := [aI v2]) (st := []) dX2_leastSpared_18 (ct_X2_isEnd _ _  hp18) mwX2_isEnd mvX2_isEnd mlX2_81 cl2 o_66 rfl rfl ⟨nle, nle, nle, nle⟩ nle rfl ?_
      refine R_if_eq dX2_leastSpared_21 rfl (fun h21 => ?_) (fun h21 => ?_)
      · replace hf := iposE hf h21
        obtain ⟨v2_56, hv2_56, hf⟩ := ltE hf
        refine R_iinc dX2_leastSpared_56 rfl rfl hv2_56 (by decide) rfl ?_
        refine R_goto dX2_leastSpared_59 rfl ?_
        exact R_subk (ih _ _ _  hf) ⟨rfl, rfl, trivial⟩
      · replace hf := inegE hf h21
        refine R_aload_n dX2_leastSpared_24 rfl rfl ?_
        refine R_getR dX2_leastSpared_25 cl2 flX2_25 o_66 ff2_4 (fr2_4 _) a_71.1 ?_
        refine R_iload_n dX2_leastSpared_28 rfl rfl ?_
        refine R_iload_n dX2_leastSpared_29 rfl rfl ?_
        obtain ⟨p30, hp30, hf⟩ := bdE hf
        refine R_callS (As := [aI v2, aI v2]) (st := [aR 71]) dX2_leastSpared_30 (ct_X2_spot _ _ _  hp30) mwX2_spot msX2_spot mlX2_85 rfl ⟨nle, nle, nle, nle⟩ nle rfl ?_
        refine R_ldcI dX2_leastSpared_33 wd547 (v := 268435456) rfl ?_
        obtain ⟨hg2, hf⟩ := gdE hf
        obtain ⟨M35, hM35, hf⟩ := ltE hf
        refine R_iastore dX2_leastSpared_35 a_71 hg2.1 hg2.2 hM35 ?_
        refine R_iload_n dX2_leastSpared_36 rfl rfl ?_
        refine R_iconst dX2_leastSpared_37 (v := 1) rfl ?_
        refine R_isub dX2_leastSpared_38 rfl ?_
        obtain ⟨v3_39, hv3_39, hf⟩ := ltE hf
        refine R_istore_n dX2_leastSpared_39 rfl (by decide) hv3_39 rfl ?_
        refine R_subk (rn_X2_leastSpared_L40 _ (fun v2 M res  hf => ?_) 4096 _ _ _ _  hf) ⟨rfl, rfl, rfl, trivial⟩
        obtain ⟨v2_56, hv2_56, hf⟩ := ltE hf
        refine R_iinc dX2_leastSpared_56 rfl rfl hv2_56 (by decide) rfl ?_
        refine R_goto dX2_leastSpared_59 rfl ?_
        exact R_subk (ih _ _ _  hf) ⟨rfl, rfl, trivial⟩
set_option maxRecDepth 20000 in
theorem ct_X2_leastSpared {G : Gl} (o1 : Nat) (M : Mem) {res : Int × Mem} (ho1 : isO 5 o1) (hf : f_X2_leastSpared o1 M = some res) : Ct G miX2_leastSpared yX2_leastSpared 3 [aR 66, aR o1] M (some (aI res.1)) res.2 := by
  refine Ct.of (L := [some (aR 66), some (aR o1), none, none]) mwX2_leastSpared rfl trivial nle ⟨rfl, rfl, trivial⟩ ?_
  unfold f_X2_leastSpared at hf
  refine R_aload_n dX2_leastSpared_0 rfl rfl ?_
  refine R_aload_n dX2_leastSpared_1 rfl rfl ?_
  obtain ⟨p2, hp2, hf⟩ := bdE hf
  refine R_callV (As := [aR o1]) (st := []) dX2_leastSpared_2 (ct_X2_costOf _ _ ho1 hp2) mwX2_costOf mvX2_costOf mlX2_91 cl2 o_66 rfl rfl ⟨nle, nle, nle, nle⟩ nle rfl ?_
  refine R_popI dX2_leastSpared_5 ?_
  refine R_iconst dX2_leastSpared_6 (v := 0) rfl ?_
  refine R_istore_n dX2_leastSpared_7 rfl (by decide) rfl rfl ?_
  exact R_subk (rn_X2_leastSpared_L8 4096 _ _ _  hf) ⟨rfl, rfl, trivial⟩
/-! BracketHall$Mending.addStep(III)V -/
def f_X2_addStep (v1 : Int) (v2 : Int) (v3 : Int) (M : Mem) : Option (Mem) :=
  if 240 ≤ (M 66 11) then
    some M
  else
    if (0 : Int) ≤ M 66 11 ∧ M 66 11 < 240 then
    lt1 (up M 74 (M 66 11) v1) fun M19 =>
    if (0 : Int) ≤ v2 ∧ v2 < 240 then
    if (0 : Int) ≤ M19 66 11 ∧ M19 66 11 < 240 then
    lt1 (up M19 75 (M19 66 11) (M19 67 v2)) fun M34 =>
    if (0 : Int) ≤ M34 66 11 ∧ M34 66 11 < 240 then
    lt1 (up M34 76 (M34 66 11) v3) fun M44 =>
    lt1 (up M44 66 11 (w32 ((M44 66 11) + 1))) fun M52 =>
    some M52
    else none
    else none
    else none
    else none
set_option maxRecDepth 20000 in
theorem ct_X2_addStep {G : Gl} (v1 : Int) (v2 : Int) (v3 : Int) (M : Mem) {res : Mem}  (hf : f_X2_addStep v1 v2 v3 M = some res) : Ct G miX2_addStep yX2_addStep 0 [aR 66, aI v1, aI v2, aI v3] M none res := by
  refine Ct.of (L := [some (aR 66), some (aI v1), some (aI v2), some (aI v3)]) mwX2_addStep rfl trivial nle ⟨rfl, rfl, rfl, rfl, trivial⟩ ?_
  unfold f_X2_addStep at hf
  refine R_aload_n dX2_addStep_0 rfl rfl ?_
  refine R_getI (ki := 11) dX2_addStep_1 cl2 flX2_47 o_66 ff2_11 rfl rfl ?_
  refine R_sipush dX2_addStep_4 (v := 240) rfl ?_
  refine R_icmp_ge dX2_addStep_7 rfl (fun h7 => ?_) (fun h7 => ?_)
  · replace hf := iposE hf h7
    cases hf; exact E_vret dX2_addStep_55 rfl rfl rfl
  · replace hf := inegE hf h7
    refine R_aload_n dX2_addStep_10 rfl rfl ?_
    refine R_getR dX2_addStep_11 cl2 flX2_34 o_66 ff2_7 (fr2_7 _) a_74.1 ?_
    refine R_aload_n dX2_addStep_14 rfl rfl ?_
    refine R_getI (ki := 11) dX2_addStep_15 cl2 flX2_47 o_66 ff2_11 rfl rfl ?_
    refine R_iload_n dX2_addStep_18 rfl rfl ?_
    obtain ⟨hg1, hf⟩ := gdE hf
    obtain ⟨M19, hM19, hf⟩ := ltE hf
    refine R_iastore dX2_addStep_19 a_74 hg1.1 hg1.2 hM19 ?_
    refine R_aload_n dX2_addStep_20 rfl rfl ?_
    refine R_getR dX2_addStep_21 cl2 flX2_37 o_66 ff2_8 (fr2_8 _) a_75.1 ?_
    refine R_aload_n dX2_addStep_24 rfl rfl ?_
    refine R_getI (ki := 11) dX2_addStep_25 cl2 flX2_47 o_66 ff2_11 rfl rfl ?_
    refine R_aload_n dX2_addStep_28 rfl rfl ?_
    refine R_getR dX2_addStep_29 cl2 flX2_9 o_66 ff2_0 (fr2_0 _) a_67.1 ?_
    refine R_iload_n dX2_addStep_32 rfl rfl ?_
    obtain ⟨hg2, hf⟩ := gdE hf
    refine R_iaload dX2_addStep_33 a_67 hg2.1 hg2.2 rfl ?_
    obtain ⟨hg3, hf⟩ := gdE hf
    obtain ⟨M34, hM34, hf⟩ := ltE hf
    refine R_iastore dX2_addStep_34 a_75 hg3.1 hg3.2 hM34 ?_
    refine R_aload_n dX2_addStep_35 rfl rfl ?_
    refine R_getR dX2_addStep_36 cl2 flX2_40 o_66 ff2_9 (fr2_9 _) a_76.1 ?_
    refine R_aload_n dX2_addStep_39 rfl rfl ?_
    refine R_getI (ki := 11) dX2_addStep_40 cl2 flX2_47 o_66 ff2_11 rfl rfl ?_
    refine R_iload_n dX2_addStep_43 rfl rfl ?_
    obtain ⟨hg4, hf⟩ := gdE hf
    obtain ⟨M44, hM44, hf⟩ := ltE hf
    refine R_iastore dX2_addStep_44 a_76 hg4.1 hg4.2 hM44 ?_
    refine R_aload_n dX2_addStep_45 rfl rfl ?_
    refine R_dupR dX2_addStep_46 ?_
    refine R_getI (ki := 11) dX2_addStep_47 cl2 flX2_47 o_66 ff2_11 rfl rfl ?_
    refine R_iconst dX2_addStep_50 (v := 1) rfl ?_
    refine R_iadd dX2_addStep_51 rfl ?_
    obtain ⟨M52, hM52, hf⟩ := ltE hf
    refine R_put (ki := 11) dX2_addStep_52 cl2 flX2_47 o_66 (Or.inl fz2_11) rfl hM52 ?_
    cases hf; exact E_vret dX2_addStep_55 rfl rfl rfl
