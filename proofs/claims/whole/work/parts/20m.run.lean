/-! BracketHallModel.restoreSnapshot(I)I -/
def f_X10_restoreSnapshot (v1 : Int) (M : Mem) : Option (Int × Mem) :=
  (f_X10_noSlot v1 M).bind fun p2 =>
  if p2.1 = 0 then
    if (0 : Int) ≤ v1 ∧ v1 < 2 then
    if (p2.2 112 v1) = 0 then
      (f_X10_throwsIf 1 2 p2.2).bind fun p24 =>
      if p24.1 = 0 then
        (f_X10_copies 111 (w32 (254 * v1)) 90 0 p24.2).bind fun p46 =>
        lt1 (up p46 84 46 0) fun M51 =>
        some (M51 90 0, M51)
      else
        some (0, p24.2)
    else
      (f_X10_throwsIf 0 2 p2.2).bind fun p24 =>
      if p24.1 = 0 then
        (f_X10_copies 111 (w32 (254 * v1)) 90 0 p24.2).bind fun p46 =>
        lt1 (up p46 84 46 0) fun M51 =>
        some (M51 90 0, M51)
      else
        some (0, p24.2)
    else none
  else
    some (0, p2.2)
set_option maxRecDepth 20000 in
theorem ct_X10_restoreSnapshot {G : Gl} (v1 : Int) (M : Mem) {res : Int × Mem}  (hf : f_X10_restoreSnapshot v1 M = some res) : Ct G miX10_restoreSnapshot yX10_restoreSnapshot 2 [aR 84, aI v1] M (some (aI res.1)) res.2 := by
  refine Ct.of (L := [some (aR 84), some (aI v1)]) mwX10_restoreSnapshot rfl trivial nle ⟨rfl, rfl, trivial⟩ ?_
  unfold f_X10_restoreSnapshot at hf
  refine R_aload_n dX10_restoreSnapshot_0 rfl rfl ?_
  refine R_iload_n dX10_restoreSnapshot_1 rfl rfl ?_
  obtain ⟨p2, hp2, hf⟩ := bdE hf
  refine R_callV (As := [aI v1]) (st := []) dX10_restoreSnapshot_2 (ct_X10_noSlot _ _  hp2) mwX10_noSlot mvX10_noSlot mlX10_413 cl10 o_84 rfl rfl ⟨nle, nle, nle, nle⟩ nle rfl ?_
  refine R_if_ne dX10_restoreSnapshot_5 rfl (fun h5 => ?_) (fun h5 => ?_)
  · replace hf := inegE hf h5
    refine R_iconst dX10_restoreSnapshot_30 (v := 0) rfl ?_
    cases hf; exact E_iret dX10_restoreSnapshot_31 rfl rfl rfl
  · replace hf := iposE hf h5
    refine R_aload_n dX10_restoreSnapshot_8 rfl rfl ?_
    refine R_aload_n dX10_restoreSnapshot_9 rfl rfl ?_
    refine R_getR dX10_restoreSnapshot_10 cl10 flX10_107 o_84 ff10_49 (fr10_49 _) a_112.1 ?_
    refine R_iload_n dX10_restoreSnapshot_13 rfl rfl ?_
    obtain ⟨hg1, hf⟩ := gdE hf
    refine R_zaload dX10_restoreSnapshot_14 a_112 hg1.1 hg1.2 rfl ?_
    refine R_if_ne dX10_restoreSnapshot_15 rfl (fun h15 => ?_) (fun h15 => ?_)
    · replace hf := inegE hf h15
      refine R_iconst dX10_restoreSnapshot_22 (v := 0) rfl ?_
      refine R_iconst dX10_restoreSnapshot_23 (v := 2) rfl ?_
      obtain ⟨p24, hp24, hf⟩ := bdE hf
      refine R_callV (As := [aI 0, aI 2]) (st := []) dX10_restoreSnapshot_24 (ct_X10_throwsIf _ _ _  hp24) mwX10_throwsIf mvX10_throwsIf mlX10_227 cl10 o_84 rfl rfl ⟨nle, nle, nle, nle⟩ nle rfl ?_
      refine R_if_eq dX10_restoreSnapshot_27 rfl (fun h27 => ?_) (fun h27 => ?_)
      · replace hf := iposE hf h27
        refine R_aload_n dX10_restoreSnapshot_32 rfl rfl ?_
        refine R_getR dX10_restoreSnapshot_33 cl10 flX10_104 o_84 ff10_48 (fr10_48 _) a_111.1 ?_
        refine R_sipush dX10_restoreSnapshot_36 (v := 254) rfl ?_
        refine R_iload_n dX10_restoreSnapshot_39 rfl rfl ?_
        refine R_imul dX10_restoreSnapshot_40 rfl ?_
        refine R_aload_n dX10_restoreSnapshot_41 rfl rfl ?_
        refine R_getR dX10_restoreSnapshot_42 cl10 flX10_35 o_84 ff10_14 (fr10_14 _) a_90.1 ?_
        refine R_iconst dX10_restoreSnapshot_45 (v := 0) rfl ?_
        obtain ⟨p46, hp46, hf⟩ := bdE hf
        refine R_callS (As := [aR 111, aI (w32 (254 * v1)), aR 90, aI 0]) (st := []) dX10_restoreSnapshot_46 (ct_X10_copies _ _ _ _ _ a_111.i a_90.i hp46) mwX10_copies msX10_copies mlX10_244 rfl ⟨nle, nle, nle, nle⟩ nle rfl ?_
        refine R_aload_n dX10_restoreSnapshot_49 rfl rfl ?_
        refine R_iconst dX10_restoreSnapshot_50 (v := 0) rfl ?_
        obtain ⟨M51, hM51, hf⟩ := ltE hf
        refine R_put (ki := 46) dX10_restoreSnapshot_51 cl10 flX10_251 o_84 (Or.inl fz10_46) rfl hM51 ?_
        refine R_aload_n dX10_restoreSnapshot_54 rfl rfl ?_
        refine R_getR dX10_restoreSnapshot_55 cl10 flX10_35 o_84 ff10_14 (fr10_14 _) a_90.1 ?_
        refine R_iconst dX10_restoreSnapshot_58 (v := 0) rfl ?_
        refine R_iaload dX10_restoreSnapshot_59 a_90 (by decide) (by decide) rfl ?_
        cases hf; exact E_iret dX10_restoreSnapshot_60 rfl rfl rfl
      · replace hf := inegE hf h27
        refine R_iconst dX10_restoreSnapshot_30 (v := 0) rfl ?_
        cases hf; exact E_iret dX10_restoreSnapshot_31 rfl rfl rfl
    · replace hf := iposE hf h15
      refine R_iconst dX10_restoreSnapshot_18 (v := 1) rfl ?_
      refine R_goto dX10_restoreSnapshot_19 rfl ?_
      refine R_iconst dX10_restoreSnapshot_23 (v := 2) rfl ?_
      obtain ⟨p24, hp24, hf⟩ := bdE hf
      refine R_callV (As := [aI 1, aI 2]) (st := []) dX10_restoreSnapshot_24 (ct_X10_throwsIf _ _ _  hp24) mwX10_throwsIf mvX10_throwsIf mlX10_227 cl10 o_84 rfl rfl ⟨nle, nle, nle, nle⟩ nle rfl ?_
      refine R_if_eq dX10_restoreSnapshot_27 rfl (fun h27 => ?_) (fun h27 => ?_)
      · replace hf := iposE hf h27
        refine R_aload_n dX10_restoreSnapshot_32 rfl rfl ?_
        refine R_getR dX10_restoreSnapshot_33 cl10 flX10_104 o_84 ff10_48 (fr10_48 _) a_111.1 ?_
        refine R_sipush dX10_restoreSnapshot_36 (v := 254) rfl ?_
        refine R_iload_n dX10_restoreSnapshot_39 rfl rfl ?_
        refine R_imul dX10_restoreSnapshot_40 rfl ?_
        refine R_aload_n dX10_restoreSnapshot_41 rfl rfl ?_
        refine R_getR dX10_restoreSnapshot_42 cl10 flX10_35 o_84 ff10_14 (fr10_14 _) a_90.1 ?_
        refine R_iconst dX10_restoreSnapshot_45 (v := 0) rfl ?_
        obtain ⟨p46, hp46, hf⟩ := bdE hf
        refine R_callS (As := [aR 111, aI (w32 (254 * v1)), aR 90, aI 0]) (st := []) dX10_restoreSnapshot_46 (ct_X10_copies _ _ _ _ _ a_111.i a_90.i hp46) mwX10_copies msX10_copies mlX10_244 rfl ⟨nle, nle, nle, nle⟩ nle rfl ?_
        refine R_aload_n dX10_restoreSnapshot_49 rfl rfl ?_
        refine R_iconst dX10_restoreSnapshot_50 (v := 0) rfl ?_
        obtain ⟨M51, hM51, hf⟩ := ltE hf
        refine R_put (ki := 46) dX10_restoreSnapshot_51 cl10 flX10_251 o_84 (Or.inl fz10_46) rfl hM51 ?_
        refine R_aload_n dX10_restoreSnapshot_54 rfl rfl ?_
        refine R_getR dX10_restoreSnapshot_55 cl10 flX10_35 o_84 ff10_14 (fr10_14 _) a_90.1 ?_
        refine R_iconst dX10_restoreSnapshot_58 (v := 0) rfl ?_
        refine R_iaload dX10_restoreSnapshot_59 a_90 (by decide) (by decide) rfl ?_
        cases hf; exact E_iret dX10_restoreSnapshot_60 rfl rfl rfl
      · replace hf := inegE hf h27
        refine R_iconst dX10_restoreSnapshot_30 (v := 0) rfl ?_
        cases hf; exact E_iret dX10_restoreSnapshot_31 rfl rfl rfl
