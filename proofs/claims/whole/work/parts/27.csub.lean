set_option maxRecDepth 20000 in
theorem rc_X7_clear_L2 {G : Gl} {n9 : Nat} {N9 : NM} : ∀ (n : Nat) (o0 : Nat) (v1 : Int) (M : Mem) (res : Mem), isO 7 o0 → o0 + 2 < n9 → N9 o0 0 = false → N9 o0 1 = false → f_X7_clear_L2 n o0 v1 M = some res → RunC G n9 N9 false (rmD 0 0 0) miX7_clear (ZC G none n9 N9 res 0 0) 0 0 2 [some (aR o0), some (aI v1)] [] M := by
  intro n
  induction n with
  | zero => intro o0 v1 M res ho0 hz hN0 hN1 hf; cases hf
  | succ n ih =>
    intro o0 v1 M res ho0 hz hN0 hN1 hf
    rw [f_X7_clear_L2] at hf
    refine C_iload_n dX7_clear_2 rfl rfl ?_
    refine C_bipush dX7_clear_3 (v := 126) rfl ?_
    refine C_icmp_gt dX7_clear_5 rfl (fun h5 => ?_) (fun h5 => ?_)
    · replace hf := iposE hf h5
      refine C_aload_n dX7_clear_21 rfl rfl ?_
      refine C_iconst dX7_clear_22 (v := 0) rfl ?_
      obtain ⟨M23, hM23, hf⟩ := ltE hf
      refine C_put (ki := 2) dX7_clear_23 cl7 flX7_18 ho0 (Or.inl fz7_2) rfl hM23 ?_
      cases hf; exact EC_vret dX7_clear_26 rfl rfl rfl
    · replace hf := inegE hf h5
      refine C_aload_n dX7_clear_8 rfl rfl ?_
      refine C_getR dX7_clear_9 cl7 flX7_9 ho0 ff7_0 (fr7_0 _) (k7_1 ho0).1 ?_
      refine C_iload_n dX7_clear_12 rfl rfl ?_
      refine C_iconst dX7_clear_13 (v := (-1)) rfl ?_
      obtain ⟨hg1, hf⟩ := gdE hf
      obtain ⟨M14, hM14, hf⟩ := ltE hf
      refine C_iastore dX7_clear_14 (k7_1 ho0) hg1.1 hg1.2 hM14 ?_
      obtain ⟨v1_15, hv1_15, hf⟩ := ltE hf
      refine C_iinc dX7_clear_15 rfl rfl hv1_15 (by decide) rfl ?_
      refine C_goto dX7_clear_18 rfl ?_
      exact C_subk (ih _ _ _ _ ho0 hz hN0 hN1 hf) ⟨rfl, rfl, trivial⟩
set_option maxRecDepth 20000 in
theorem cc_X7_clear {G : Gl} {n9 : Nat} {N9 : NM} (o0 : Nat) (M : Mem) {res : Mem} (ho0 : isO 7 o0) (hz : o0 + 2 < n9) (hN0 : N9 o0 0 = false) (hN1 : N9 o0 1 = false) (hf : f_X7_clear o0 M = some res) : CtC G miX7_clear yX7_clear 0 0 0 [aR o0] n9 N9 M none n9 N9 res := by
  refine CtC.of (fl := false) (L := [some (aR o0), none]) mwX7_clear rfl trivial nle ⟨rfl, trivial⟩ (fun h => by cases h) ?_
  unfold f_X7_clear at hf
  refine C_iconst dX7_clear_0 (v := 0) rfl ?_
  refine C_istore_n dX7_clear_1 rfl (by decide) rfl rfl ?_
  exact C_subk (rc_X7_clear_L2 4096 _ _ _ _ ho0 hz hN0 hN1 hf) ⟨rfl, rfl, trivial⟩
set_option maxRecDepth 20000 in
theorem cc_X7_roleOf {G : Gl} {n9 : Nat} {N9 : NM} (o0 : Nat) (v1 : Int) (M : Mem) {res : Int} (ho0 : isO 7 o0) (hz : o0 + 2 < n9) (hN0 : N9 o0 0 = false) (hN1 : N9 o0 1 = false) (hf : f_X7_roleOf o0 v1 M = some res) : CtC G miX7_roleOf yX7_roleOf 0 0 0 [aR o0, aI v1] n9 N9 M (some (aI res)) n9 N9 M := by
  refine CtC.of (fl := false) (L := [some (aR o0), some (aI v1)]) mwX7_roleOf rfl trivial nle ⟨rfl, rfl, trivial⟩ (fun h => by cases h) ?_
  unfold f_X7_roleOf at hf
  refine C_iload_n dX7_roleOf_0 rfl rfl ?_
  refine C_if_lt dX7_roleOf_1 rfl (fun h1 => ?_) (fun h1 => ?_)
  · replace hf := iposE hf h1
    refine C_iconst dX7_roleOf_19 (v := (-1)) rfl ?_
    cases hf; exact EC_iret dX7_roleOf_20 rfl rfl rfl
  · replace hf := inegE hf h1
    refine C_iload_n dX7_roleOf_4 rfl rfl ?_
    refine C_bipush dX7_roleOf_5 (v := 126) rfl ?_
    refine C_icmp_gt dX7_roleOf_7 rfl (fun h7 => ?_) (fun h7 => ?_)
    · replace hf := iposE hf h7
      refine C_iconst dX7_roleOf_19 (v := (-1)) rfl ?_
      cases hf; exact EC_iret dX7_roleOf_20 rfl rfl rfl
    · replace hf := inegE hf h7
      refine C_aload_n dX7_roleOf_10 rfl rfl ?_
      refine C_getR dX7_roleOf_11 cl7 flX7_9 ho0 ff7_0 (fr7_0 _) (k7_1 ho0).1 ?_
      refine C_iload_n dX7_roleOf_14 rfl rfl ?_
      obtain ⟨hg1, hf⟩ := gdE hf
      refine C_iaload dX7_roleOf_15 (k7_1 ho0) hg1.1 hg1.2 rfl ?_
      refine C_goto dX7_roleOf_16 rfl ?_
      cases hf; exact EC_iret dX7_roleOf_20 rfl rfl rfl
set_option maxRecDepth 20000 in
theorem cc_X7_tell {G : Gl} {n9 : Nat} {N9 : NM} (o0 : Nat) (v1 : Int) (v2 : Int) (M : Mem) {res : Int × Mem} (ho0 : isO 7 o0) (hz : o0 + 2 < n9) (hN0 : N9 o0 0 = false) (hN1 : N9 o0 1 = false) (hf : f_X7_tell o0 v1 v2 M = some res) : CtC G miX7_tell yX7_tell 0 0 0 [aR o0, aI v1, aI v2] n9 N9 M (some (aI res.1)) n9 N9 res.2 := by
  refine CtC.of (fl := false) (L := [some (aR o0), some (aI v1), some (aI v2)]) mwX7_tell rfl trivial nle ⟨rfl, rfl, rfl, trivial⟩ (fun h => by cases h) ?_
  unfold f_X7_tell at hf
  refine C_iload_n dX7_tell_0 rfl rfl ?_
  refine C_if_lt dX7_tell_1 rfl (fun h1 => ?_) (fun h1 => ?_)
  · replace hf := iposE hf h1
    refine C_iconst dX7_tell_10 (v := 1) rfl ?_
    cases hf; exact EC_iret dX7_tell_11 rfl rfl rfl
  · replace hf := inegE hf h1
    refine C_iload_n dX7_tell_4 rfl rfl ?_
    refine C_bipush dX7_tell_5 (v := 126) rfl ?_
    refine C_icmp_le dX7_tell_7 rfl (fun h7 => ?_) (fun h7 => ?_)
    · replace hf := iposE hf h7
      refine C_aload_n dX7_tell_12 rfl rfl ?_
      refine C_getR dX7_tell_13 cl7 flX7_9 ho0 ff7_0 (fr7_0 _) (k7_1 ho0).1 ?_
      refine C_iload_n dX7_tell_16 rfl rfl ?_
      obtain ⟨hg1, hf⟩ := gdE hf
      refine C_iaload dX7_tell_17 (k7_1 ho0) hg1.1 hg1.2 rfl ?_
      refine C_iconst dX7_tell_18 (v := (-1)) rfl ?_
      refine C_icmp_eq dX7_tell_19 rfl (fun h19 => ?_) (fun h19 => ?_)
      · replace hf := iposE hf h19
        refine C_aload_n dX7_tell_24 rfl rfl ?_
        refine C_getR dX7_tell_25 cl7 flX7_9 ho0 ff7_0 (fr7_0 _) (k7_1 ho0).1 ?_
        refine C_iload_n dX7_tell_28 rfl rfl ?_
        refine C_iload_n dX7_tell_29 rfl rfl ?_
        obtain ⟨M30, hM30, hf⟩ := ltE hf
        refine C_iastore dX7_tell_30 (k7_1 ho0) hg1.1 hg1.2 hM30 ?_
        refine C_iconst dX7_tell_31 (v := 0) rfl ?_
        cases hf; exact EC_iret dX7_tell_32 rfl rfl rfl
      · replace hf := inegE hf h19
        refine C_iconst dX7_tell_22 (v := 3) rfl ?_
        cases hf; exact EC_iret dX7_tell_23 rfl rfl rfl
    · replace hf := inegE hf h7
      refine C_iconst dX7_tell_10 (v := 1) rfl ?_
      cases hf; exact EC_iret dX7_tell_11 rfl rfl rfl
set_option maxRecDepth 20000 in
theorem cc_X7_addKind {G : Gl} {n9 : Nat} {N9 : NM} (o0 : Nat) (v1 : Int) (v2 : Int) (M : Mem) {res : Int × Mem} (ho0 : isO 7 o0) (hz : o0 + 2 < n9) (hN0 : N9 o0 0 = false) (hN1 : N9 o0 1 = false) (hf : f_X7_addKind o0 v1 v2 M = some res) : CtC G miX7_addKind yX7_addKind 1 0 0 [aR o0, aI v1, aI v2] n9 N9 M (some (aI res.1)) n9 N9 res.2 := by
  refine CtC.of (fl := false) (L := [some (aR o0), some (aI v1), some (aI v2)]) mwX7_addKind rfl trivial nle ⟨rfl, rfl, rfl, trivial⟩ (fun h => by cases h) ?_
  unfold f_X7_addKind at hf
  refine C_iload_n dX7_addKind_0 rfl rfl ?_
  refine C_iload_n dX7_addKind_1 rfl rfl ?_
  refine C_icmp_eq dX7_addKind_2 rfl (fun h2 => ?_) (fun h2 => ?_)
  · replace hf := iposE hf h2
    refine C_iconst dX7_addKind_23 (v := 3) rfl ?_
    cases hf; exact EC_iret dX7_addKind_24 rfl rfl rfl
  · replace hf := inegE hf h2
    refine C_aload_n dX7_addKind_5 rfl rfl ?_
    refine C_iload_n dX7_addKind_6 rfl rfl ?_
    obtain ⟨p7, hp7, hf⟩ := bdE hf
    refine C_callV (As := [aI v1]) (st := []) dX7_addKind_7 (cc_X7_roleOf _ _ _ ho0 hz hN0 hN1 hp7) mwX7_roleOf mvX7_roleOf mlX7_35 cl7 ho0 rfl rfl ⟨nle, nle, nle, nle⟩ nle rfl ?_
    refine C_iconst dX7_addKind_10 (v := (-1)) rfl ?_
    refine C_icmp_ne dX7_addKind_11 rfl (fun h11 => ?_) (fun h11 => ?_)
    · replace hf := inegE hf h11
      refine C_iconst dX7_addKind_23 (v := 3) rfl ?_
      cases hf; exact EC_iret dX7_addKind_24 rfl rfl rfl
    · replace hf := iposE hf h11
      refine C_aload_n dX7_addKind_14 rfl rfl ?_
      refine C_iload_n dX7_addKind_15 rfl rfl ?_
      obtain ⟨p16, hp16, hf⟩ := bdE hf
      refine C_callV (As := [aI v2]) (st := []) dX7_addKind_16 (cc_X7_roleOf _ _ _ ho0 hz hN0 hN1 hp16) mwX7_roleOf mvX7_roleOf mlX7_35 cl7 ho0 rfl rfl ⟨nle, nle, nle, nle⟩ nle rfl ?_
      refine C_iconst dX7_addKind_19 (v := (-1)) rfl ?_
      refine C_icmp_eq dX7_addKind_20 rfl (fun h20 => ?_) (fun h20 => ?_)
      · replace hf := iposE hf h20
        refine C_aload_n dX7_addKind_25 rfl rfl ?_
        refine C_getI (ki := 2) dX7_addKind_26 cl7 flX7_18 ho0 ff7_2 rfl rfl ?_
        refine C_iconst dX7_addKind_29 (v := 4) rfl ?_
        refine C_icmp_lt dX7_addKind_30 rfl (fun h30 => ?_) (fun h30 => ?_)
        · replace hf := iposE hf h30
          refine C_aload_n dX7_addKind_35 rfl rfl ?_
          refine C_getR dX7_addKind_36 cl7 flX7_15 ho0 ff7_1 (fr7_1 _) (k7_2 ho0).1 ?_
          refine C_iconst dX7_addKind_39 (v := 2) rfl ?_
          refine C_aload_n dX7_addKind_40 rfl rfl ?_
          refine C_getI (ki := 2) dX7_addKind_41 cl7 flX7_18 ho0 ff7_2 rfl rfl ?_
          refine C_imul dX7_addKind_44 rfl ?_
          refine C_iload_n dX7_addKind_45 rfl rfl ?_
          obtain ⟨hg1, hf⟩ := gdE hf
          obtain ⟨M46, hM46, hf⟩ := ltE hf
          refine C_iastore dX7_addKind_46 (k7_2 ho0) hg1.1 hg1.2 hM46 ?_
          refine C_aload_n dX7_addKind_47 rfl rfl ?_
          refine C_getR dX7_addKind_48 cl7 flX7_15 ho0 ff7_1 (fr7_1 _) (k7_2 ho0).1 ?_
          refine C_iconst dX7_addKind_51 (v := 2) rfl ?_
          refine C_aload_n dX7_addKind_52 rfl rfl ?_
          refine C_getI (ki := 2) dX7_addKind_53 cl7 flX7_18 ho0 ff7_2 rfl rfl ?_
          refine C_imul dX7_addKind_56 rfl ?_
          refine C_iconst dX7_addKind_57 (v := 1) rfl ?_
          refine C_iadd dX7_addKind_58 rfl ?_
          refine C_iload_n dX7_addKind_59 rfl rfl ?_
          obtain ⟨hg2, hf⟩ := gdE hf
          obtain ⟨M60, hM60, hf⟩ := ltE hf
          refine C_iastore dX7_addKind_60 (k7_2 ho0) hg2.1 hg2.2 hM60 ?_
          refine C_aload_n dX7_addKind_61 rfl rfl ?_
          refine C_iload_n dX7_addKind_62 rfl rfl ?_
          refine C_iconst dX7_addKind_63 (v := 2) rfl ?_
          refine C_aload_n dX7_addKind_64 rfl rfl ?_
          refine C_getI (ki := 2) dX7_addKind_65 cl7 flX7_18 ho0 ff7_2 rfl rfl ?_
          refine C_imul dX7_addKind_68 rfl ?_
          obtain ⟨p69, hp69, hf⟩ := bdE hf
          refine C_callV (As := [aI v1, aI (w32 (2 * (M60 o0 2)))]) (st := []) dX7_addKind_69 (cc_X7_tell _ _ _ _ ho0 hz hN0 hN1 hp69) mwX7_tell mvX7_tell mlX7_39 cl7 ho0 rfl rfl ⟨nle, nle, nle, nle⟩ nle rfl ?_
          refine C_popI dX7_addKind_72 ?_
          refine C_aload_n dX7_addKind_73 rfl rfl ?_
          refine C_iload_n dX7_addKind_74 rfl rfl ?_
          refine C_iconst dX7_addKind_75 (v := 2) rfl ?_
          refine C_aload_n dX7_addKind_76 rfl rfl ?_
          refine C_getI (ki := 2) dX7_addKind_77 cl7 flX7_18 ho0 ff7_2 rfl rfl ?_
          refine C_imul dX7_addKind_80 rfl ?_
          refine C_iconst dX7_addKind_81 (v := 1) rfl ?_
          refine C_iadd dX7_addKind_82 rfl ?_
          obtain ⟨p83, hp83, hf⟩ := bdE hf
          refine C_callV (As := [aI v2, aI (w32 ((w32 (2 * (p69.2 o0 2))) + 1))]) (st := []) dX7_addKind_83 (cc_X7_tell _ _ _ _ ho0 hz hN0 hN1 hp83) mwX7_tell mvX7_tell mlX7_39 cl7 ho0 rfl rfl ⟨nle, nle, nle, nle⟩ nle rfl ?_
          refine C_popI dX7_addKind_86 ?_
          refine C_aload_n dX7_addKind_87 rfl rfl ?_
          refine C_dupR dX7_addKind_88 ?_
          refine C_getI (ki := 2) dX7_addKind_89 cl7 flX7_18 ho0 ff7_2 rfl rfl ?_
          refine C_iconst dX7_addKind_92 (v := 1) rfl ?_
          refine C_iadd dX7_addKind_93 rfl ?_
          obtain ⟨M94, hM94, hf⟩ := ltE hf
          refine C_put (ki := 2) dX7_addKind_94 cl7 flX7_18 ho0 (Or.inl fz7_2) rfl hM94 ?_
          refine C_iconst dX7_addKind_97 (v := 0) rfl ?_
          cases hf; exact EC_iret dX7_addKind_98 rfl rfl rfl
        · replace hf := inegE hf h30
          refine C_iconst dX7_addKind_33 (v := 4) rfl ?_
          cases hf; exact EC_iret dX7_addKind_34 rfl rfl rfl
      · replace hf := inegE hf h20
        refine C_iconst dX7_addKind_23 (v := 3) rfl ?_
        cases hf; exact EC_iret dX7_addKind_24 rfl rfl rfl
set_option maxRecDepth 20000 in
theorem rc_X10_empties_K19 {G : Gl} {n9 : Nat} {N9 : NM} (o0 : Nat) (M : Mem) (res : Mem) (ho0 : isI 20 o0) (hz : o0 < n9) (hf : f_X10_empties_K19 o0 M = some res) : RunC G n9 N9 false (rmD 0 0 0) miX10_empties (ZC G none n9 N9 res 0 0) 0 0 19 [some (aR o0), none] [] M := by
  unfold f_X10_empties_K19 at hf
  refine C_aload_n dX10_empties_19 rfl rfl ?_
  refine C_bipush dX10_empties_20 (v := 10) rfl ?_
  refine C_iconst dX10_empties_22 (v := 3) rfl ?_
  obtain ⟨hg1, hf⟩ := gdE hf
  obtain ⟨M23, hM23, hf⟩ := ltE hf
  refine C_iastore dX10_empties_23 ho0.a hg1.1 hg1.2 hM23 ?_
  refine C_aload_n dX10_empties_24 rfl rfl ?_
  refine C_bipush dX10_empties_25 (v := 11) rfl ?_
  refine C_iconst dX10_empties_27 (v := 2) rfl ?_
  obtain ⟨hg2, hf⟩ := gdE hf
  obtain ⟨M28, hM28, hf⟩ := ltE hf
  refine C_iastore dX10_empties_28 ho0.a hg2.1 hg2.2 hM28 ?_
  refine C_aload_n dX10_empties_29 rfl rfl ?_
  refine C_bipush dX10_empties_30 (v := 12) rfl ?_
  refine C_iconst dX10_empties_32 (v := 3) rfl ?_
  obtain ⟨hg3, hf⟩ := gdE hf
  obtain ⟨M33, hM33, hf⟩ := ltE hf
  refine C_iastore dX10_empties_33 ho0.a hg3.1 hg3.2 hM33 ?_
  refine C_aload_n dX10_empties_34 rfl rfl ?_
  refine C_bipush dX10_empties_35 (v := 13) rfl ?_
  refine C_iconst dX10_empties_37 (v := 4) rfl ?_
  obtain ⟨hg4, hf⟩ := gdE hf
  obtain ⟨M38, hM38, hf⟩ := ltE hf
  refine C_iastore dX10_empties_38 ho0.a hg4.1 hg4.2 hM38 ?_
  cases hf; exact EC_vret dX10_empties_39 rfl rfl rfl
set_option maxRecDepth 20000 in
theorem rc_X10_empties_L2 {G : Gl} {n9 : Nat} {N9 : NM} : ∀ (n : Nat) (o0 : Nat) (v1 : Int) (M : Mem) (res : Mem), isI 20 o0 → o0 < n9 → f_X10_empties_L2 n o0 v1 M = some res → RunC G n9 N9 false (rmD 0 0 0) miX10_empties (ZC G none n9 N9 res 0 0) 0 0 2 [some (aR o0), some (aI v1)] [] M := by
  intro n
  induction n with
  | zero => intro o0 v1 M res ho0 hz hf; cases hf
  | succ n ih =>
    intro o0 v1 M res ho0 hz hf
    rw [f_X10_empties_L2] at hf
    refine C_iload_n dX10_empties_2 rfl rfl ?_
    refine C_sipush dX10_empties_3 (v := 254) rfl ?_
    refine C_icmp_ge dX10_empties_6 rfl (fun h6 => ?_) (fun h6 => ?_)
    · replace hf := iposE hf h6
      exact C_subk (rc_X10_empties_K19 _ _ _ ho0 hz hf) ⟨rfl, trivial⟩
    · replace hf := inegE hf h6
      refine C_aload_n dX10_empties_9 rfl rfl ?_
      refine C_iload_n dX10_empties_10 rfl rfl ?_
      refine C_iconst dX10_empties_11 (v := 0) rfl ?_
      obtain ⟨hg5, hf⟩ := gdE hf
      obtain ⟨M12, hM12, hf⟩ := ltE hf
      refine C_iastore dX10_empties_12 ho0.a hg5.1 hg5.2 hM12 ?_
      obtain ⟨v1_13, hv1_13, hf⟩ := ltE hf
      refine C_iinc dX10_empties_13 rfl rfl hv1_13 (by decide) rfl ?_
      refine C_goto dX10_empties_16 rfl ?_
      exact C_subk (ih _ _ _ _ ho0 hz hf) ⟨rfl, rfl, trivial⟩
set_option maxRecDepth 20000 in
theorem cc_X10_empties {G : Gl} {n9 : Nat} {N9 : NM} (o0 : Nat) (M : Mem) {res : Mem} (ho0 : isI 20 o0) (hz : o0 < n9) (hf : f_X10_empties o0 M = some res) : CtC G miX10_empties yX10_empties 0 0 0 [aR o0] n9 N9 M none n9 N9 res := by
  refine CtC.of (fl := false) (L := [some (aR o0), none]) mwX10_empties rfl trivial nle ⟨rfl, trivial⟩ (fun h => by cases h) ?_
  unfold f_X10_empties at hf
  refine C_iconst dX10_empties_0 (v := 0) rfl ?_
  refine C_istore_n dX10_empties_1 rfl (by decide) rfl rfl ?_
  exact C_subk (rc_X10_empties_L2 4096 _ _ _ _ ho0 hz hf) ⟨rfl, rfl, trivial⟩
