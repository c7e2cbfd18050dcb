/-! ===== meanDepth and share ===== -/
def f_X9_meanDepth  (M : Mem) : Option (Int × Int × Mem) :=
  (f_X9_readNow M).bind fun p1 =>
  lt1 (p1 54 7) fun v1_7 =>
  if v1_7 = 0 then
    some (0, 0, p1)
  else
    (f_X9_readNow p1).bind fun p15 =>
    (f_X5_depthSum 54 p15).bind fun p18 =>
    if v1_7 = 0 then none else
    some (p18, v1_7, p15)
set_option maxRecDepth 20000 in
theorem ct_X9_meanDepth {G : Gl}  (M : Mem) {res : Int × Int × Mem}  (hf : f_X9_meanDepth  M = some res) : CtD G miX9_meanDepth yX9_meanDepth 4 [aR 0] M (pD res.1 res.2.1) res.2.2 := by
  refine CtD.of (L := [some (aR 0), none]) mwX9_meanDepth rfl trivial nle ⟨rfl, trivial⟩ ?_
  unfold f_X9_meanDepth at hf
  refine R_aload_n dX9_meanDepth_0 rfl rfl ?_
  obtain ⟨p1, hp1, hf⟩ := bdE hf
  refine R_callV (As := []) (st := []) dX9_meanDepth_1 (ct_X9_readNow  _  hp1) mwX9_readNow mvX9_readNow mlX9_165 cl9 o_0 rfl rfl ⟨nle, nle, nle, nle⟩ nle rfl ?_
  refine R_getI (ki := 7) dX9_meanDepth_4 cl5 flX9_173 o_54 ff5_7 rfl rfl ?_
  obtain ⟨v1_7, hv1_7, hf⟩ := ltE hf
  refine R_istore_n dX9_meanDepth_7 rfl (by decide) hv1_7 rfl ?_
  refine R_iload_n dX9_meanDepth_8 rfl rfl ?_
  refine R_if_ne dX9_meanDepth_9 rfl (fun h9 => ?_) (fun h9 => ?_)
  · replace hf := inegE hf h9
    refine R_aload_n dX9_meanDepth_14 rfl rfl ?_
    obtain ⟨p15, hp15, hf⟩ := bdE hf
    refine R_callV (As := []) (st := []) dX9_meanDepth_15 (ct_X9_readNow  _  hp15) mwX9_readNow mvX9_readNow mlX9_165 cl9 o_0 rfl rfl ⟨nle, nle, nle, nle⟩ nle rfl ?_
    obtain ⟨p18, hp18, hf⟩ := bdE hf
    refine R_callV (As := []) (st := []) dX9_meanDepth_18 (ct_X5_depthSum _ _ o_54 hp18) mwX5_depthSum mvX5_depthSum mlX9_271 cl5 o_54 rfl rfl ⟨nle, nle, nle, nle⟩ nle rfl ?_
    refine R_i2d dX9_meanDepth_21 ?_
    refine R_iload_n dX9_meanDepth_22 rfl rfl ?_
    refine R_i2d dX9_meanDepth_23 ?_
    obtain ⟨hz, hf⟩ := gnE hf
    refine R_ddiv dX9_meanDepth_24 (fun r24 hq24 => ?_)
    cases hf; exact E_dret dX9_meanDepth_25 rfl (by unfold pD; rw [if_neg hz]; exact ⟨_, rfl, hq24⟩) rfl
  · replace hf := iposE hf h9
    refine R_dconst0 dX9_meanDepth_12 ?_
    cases hf; exact E_dret dX9_meanDepth_13 rfl (by unfold pD; rw [if_pos rfl]) rfl
def f_X9_share  (M : Mem) : Option (Int × Int × Mem) :=
  (f_X9_readNow M).bind fun p1 =>
  lt1 (p1 54 6) fun v1_7 =>
  if v1_7 = 0 then
    some (0, 0, p1)
  else
    (f_X9_readNow p1).bind fun p16 =>
    if v1_7 = 0 then none else
    some (w32 (2 * (p16 54 7)), v1_7, p16)
set_option maxRecDepth 20000 in
theorem ct_X9_share {G : Gl}  (M : Mem) {res : Int × Int × Mem}  (hf : f_X9_share  M = some res) : CtD G miX9_share yX9_share 4 [aR 0] M (pF res.1 res.2.1) res.2.2 := by
  refine CtD.of (L := [some (aR 0), none]) mwX9_share rfl trivial nle ⟨rfl, trivial⟩ ?_
  unfold f_X9_share at hf
  refine R_aload_n dX9_share_0 rfl rfl ?_
  obtain ⟨p1, hp1, hf⟩ := bdE hf
  refine R_callV (As := []) (st := []) dX9_share_1 (ct_X9_readNow  _  hp1) mwX9_readNow mvX9_readNow mlX9_165 cl9 o_0 rfl rfl ⟨nle, nle, nle, nle⟩ nle rfl ?_
  refine R_getI (ki := 6) dX9_share_4 cl5 flX9_169 o_54 ff5_6 rfl rfl ?_
  obtain ⟨v1_7, hv1_7, hf⟩ := ltE hf
  refine R_istore_n dX9_share_7 rfl (by decide) hv1_7 rfl ?_
  refine R_iload_n dX9_share_8 rfl rfl ?_
  refine R_if_ne dX9_share_9 rfl (fun h9 => ?_) (fun h9 => ?_)
  · replace hf := inegE hf h9
    refine R_iconst dX9_share_14 (v := 2) rfl ?_
    refine R_aload_n dX9_share_15 rfl rfl ?_
    obtain ⟨p16, hp16, hf⟩ := bdE hf
    refine R_callV (As := []) (st := [aI 2]) dX9_share_16 (ct_X9_readNow  _  hp16) mwX9_readNow mvX9_readNow mlX9_165 cl9 o_0 rfl rfl ⟨nle, nle, nle, nle⟩ nle rfl ?_
    refine R_getI (ki := 7) dX9_share_19 cl5 flX9_173 o_54 ff5_7 rfl rfl ?_
    refine R_imul dX9_share_22 rfl ?_
    refine R_i2f dX9_share_23 ?_
    refine R_iload_n dX9_share_24 rfl rfl ?_
    refine R_i2f dX9_share_25 ?_
    obtain ⟨hz, hf⟩ := gnE hf
    refine R_fdiv dX9_share_26 (fun r26 hq26 => ?_)
    cases hf; exact E_fret dX9_share_27 rfl (by unfold pF; rw [if_neg hz]; exact ⟨_, rfl, hq26⟩) rfl
  · replace hf := iposE hf h9
    refine R_fconst1 dX9_share_12 ?_
    cases hf; exact E_fret dX9_share_13 rfl (by unfold pF; rw [if_pos rfl]) rfl
def f_X10_meanDepth_K52 (v1 : Int) (M : Mem) : Option (Int × Int × Mem) :=
  (f_X10_pairs M).bind fun p53 =>
  if p53 = 0 then
    some (0, 0, M)
  else
    (f_X10_pairs M).bind fun p66 =>
    if p66 = 0 then none else
    some (v1, p66, M)
def f_X10_meanDepth_L13 : Nat → Int → Int → Mem → Option (Int × Int × Mem)
  | 0, _, _, _ => none
  | n + 1, v1, v2, M =>
    if (M 84 26) ≤ v2 then
      f_X10_meanDepth_K52 v1 M
    else
      (f_X10_isPair v2 M).bind fun p24 =>
      if p24 = 0 then
        lt1 (w32 (v1 + 0)) fun v1_45 =>
        lt1 (w32 (v2 + 1)) fun v2_46 =>
        f_X10_meanDepth_L13 n v1_45 v2_46 M
      else
        if (0 : Int) ≤ v2 ∧ v2 < 240 then
        (f_X10_depthAt (M 93 v2) M).bind fun p37 =>
        lt1 (w32 (v1 + p37)) fun v1_45 =>
        lt1 (w32 (v2 + 1)) fun v2_46 =>
        f_X10_meanDepth_L13 n v1_45 v2_46 M
        else none
def f_X10_meanDepth  (M : Mem) : Option (Int × Int × Mem) :=
  lt1 (up M 84 0 0) fun M2 =>
  (f_X10_findsPairs M2).bind fun p6 =>
  f_X10_meanDepth_L13 4096 0 0 p6
set_option maxRecDepth 20000 in
theorem rn_X10_meanDepth_K52 {G : Gl} (v1 : Int) (M : Mem) (res : Int × Int × Mem)  (hf : f_X10_meanDepth_K52 v1 M = some res) : Run G true (rmD 4 0 0) miX10_meanDepth (ZD G (pD res.1 res.2.1) res.2.2) 0 0 52 [some (aR 84), some (aI v1), none] [] M := by
  unfold f_X10_meanDepth_K52 at hf
  refine R_aload_n dX10_meanDepth_52 rfl rfl ?_
  obtain ⟨p53, hp53, hf⟩ := bdE hf
  refine R_callV (As := []) (st := []) dX10_meanDepth_53 (ct_X10_pairs  _  hp53) mwX10_pairs mvX10_pairs mlX10_295 cl10 o_84 rfl rfl ⟨nle, nle, nle, nle⟩ nle rfl ?_
  refine R_if_ne dX10_meanDepth_56 rfl (fun h56 => ?_) (fun h56 => ?_)
  · replace hf := inegE hf h56
    refine R_iload_n dX10_meanDepth_63 rfl rfl ?_
    refine R_i2d dX10_meanDepth_64 ?_
    refine R_aload_n dX10_meanDepth_65 rfl rfl ?_
    obtain ⟨p66, hp66, hf⟩ := bdE hf
    refine R_callV (As := []) (st := [aD v1]) dX10_meanDepth_66 (ct_X10_pairs  _  hp66) mwX10_pairs mvX10_pairs mlX10_295 cl10 o_84 rfl rfl ⟨nle, nle, nle, nle⟩ nle rfl ?_
    refine R_i2d dX10_meanDepth_69 ?_
    obtain ⟨hz, hf⟩ := gnE hf
    refine R_ddiv dX10_meanDepth_70 (fun r70 hq70 => ?_)
    cases hf; exact E_dret dX10_meanDepth_71 rfl (by unfold pD; rw [if_neg hz]; exact ⟨_, rfl, hq70⟩) rfl
  · replace hf := iposE hf h56
    refine R_dconst0 dX10_meanDepth_59 ?_
    refine R_goto dX10_meanDepth_60 rfl ?_
    cases hf; exact E_dret dX10_meanDepth_71 rfl (by unfold pD; rw [if_pos rfl]) rfl
set_option maxRecDepth 20000 in
theorem rn_X10_meanDepth_L13 {G : Gl} : ∀ (n : Nat) (v1 : Int) (v2 : Int) (M : Mem) (res : Int × Int × Mem),  f_X10_meanDepth_L13 n v1 v2 M = some res → Run G true (rmD 4 0 0) miX10_meanDepth (ZD G (pD res.1 res.2.1) res.2.2) 0 0 13 [some (aR 84), some (aI v1), some (aI v2)] [] M := by
  intro n
  induction n with
  | zero => intro v1 v2 M res  hf; cases hf
  | succ n ih =>
    intro v1 v2 M res  hf
    rw [f_X10_meanDepth_L13] at hf
    refine R_iload_n dX10_meanDepth_13 rfl rfl ?_
    refine R_aload_n dX10_meanDepth_14 rfl rfl ?_
    refine R_getI (ki := 26) dX10_meanDepth_15 cl10 flX10_264 o_84 ff10_26 rfl rfl ?_
    refine R_icmp_ge dX10_meanDepth_18 rfl (fun h18 => ?_) (fun h18 => ?_)
    · replace hf := iposE hf h18
      exact R_subk (rn_X10_meanDepth_K52 _ _ _  hf) ⟨rfl, rfl, trivial⟩
    · replace hf := inegE hf h18
      refine R_iload_n dX10_meanDepth_21 rfl rfl ?_
      refine R_aload_n dX10_meanDepth_22 rfl rfl ?_
      refine R_iload_n dX10_meanDepth_23 rfl rfl ?_
      obtain ⟨p24, hp24, hf⟩ := bdE hf
      refine R_callV (As := [aI v2]) (st := [aI v1]) dX10_meanDepth_24 (ct_X10_isPair _ _  hp24) mwX10_isPair mvX10_isPair mlX10_275 cl10 o_84 rfl rfl ⟨nle, nle, nle, nle⟩ nle rfl ?_
      refine R_if_eq dX10_meanDepth_27 rfl (fun h27 => ?_) (fun h27 => ?_)
      · replace hf := iposE hf h27
        refine R_iconst dX10_meanDepth_43 (v := 0) rfl ?_
        refine R_iadd dX10_meanDepth_44 rfl ?_
        obtain ⟨v1_45, hv1_45, hf⟩ := ltE hf
        refine R_istore_n dX10_meanDepth_45 rfl (by decide) hv1_45 rfl ?_
        obtain ⟨v2_46, hv2_46, hf⟩ := ltE hf
        refine R_iinc dX10_meanDepth_46 rfl rfl hv2_46 (by decide) rfl ?_
        refine R_goto dX10_meanDepth_49 rfl ?_
        exact R_subk (ih _ _ _ _  hf) ⟨rfl, rfl, rfl, trivial⟩
      · replace hf := inegE hf h27
        refine R_aload_n dX10_meanDepth_30 rfl rfl ?_
        refine R_aload_n dX10_meanDepth_31 rfl rfl ?_
        refine R_getR dX10_meanDepth_32 cl10 flX10_48 o_84 ff10_27 (fr10_27 _) a_93.1 ?_
        refine R_iload_n dX10_meanDepth_35 rfl rfl ?_
        obtain ⟨hg1, hf⟩ := gdE hf
        refine R_iaload dX10_meanDepth_36 a_93 hg1.1 hg1.2 rfl ?_
        obtain ⟨p37, hp37, hf⟩ := bdE hf
        refine R_callV (As := [aI (M 93 v2)]) (st := [aI v1]) dX10_meanDepth_37 (ct_X10_depthAt _ _  hp37) mwX10_depthAt mvX10_depthAt mlX10_284 cl10 o_84 rfl rfl ⟨nle, nle, nle, nle⟩ nle rfl ?_
        refine R_goto dX10_meanDepth_40 rfl ?_
        refine R_iadd dX10_meanDepth_44 rfl ?_
        obtain ⟨v1_45, hv1_45, hf⟩ := ltE hf
        refine R_istore_n dX10_meanDepth_45 rfl (by decide) hv1_45 rfl ?_
        obtain ⟨v2_46, hv2_46, hf⟩ := ltE hf
        refine R_iinc dX10_meanDepth_46 rfl rfl hv2_46 (by decide) rfl ?_
        refine R_goto dX10_meanDepth_49 rfl ?_
        exact R_subk (ih _ _ _ _  hf) ⟨rfl, rfl, rfl, trivial⟩
set_option maxRecDepth 20000 in
theorem ct_X10_meanDepth {G : Gl}  (M : Mem) {res : Int × Int × Mem}  (hf : f_X10_meanDepth  M = some res) : CtD G miX10_meanDepth yX10_meanDepth 4 [aR 84] M (pD res.1 res.2.1) res.2.2 := by
  refine CtD.of (L := [some (aR 84), none, none]) mwX10_meanDepth rfl trivial nle ⟨rfl, trivial⟩ ?_
  unfold f_X10_meanDepth at hf
  refine R_aload_n dX10_meanDepth_0 rfl rfl ?_
  refine R_iconst dX10_meanDepth_1 (v := 0) rfl ?_
  obtain ⟨M2, hM2, hf⟩ := ltE hf
  refine R_put (ki := 0) dX10_meanDepth_2 cl10 flX10_117 o_84 (Or.inl fz10_0) rfl hM2 ?_
  refine R_aload_n dX10_meanDepth_5 rfl rfl ?_
  obtain ⟨p6, hp6, hf⟩ := bdE hf
  refine R_callV (As := []) (st := []) dX10_meanDepth_6 (ct_X10_findsPairs  _  hp6) mwX10_findsPairs mvX10_findsPairs mlX10_292 cl10 o_84 rfl rfl ⟨nle, nle, nle, nle⟩ nle rfl ?_
  refine R_iconst dX10_meanDepth_9 (v := 0) rfl ?_
  refine R_istore_n dX10_meanDepth_10 rfl (by decide) rfl rfl ?_
  refine R_iconst dX10_meanDepth_11 (v := 0) rfl ?_
  refine R_istore_n dX10_meanDepth_12 rfl (by decide) rfl rfl ?_
  exact R_subk (rn_X10_meanDepth_L13 4096 _ _ _ _  hf) ⟨rfl, rfl, rfl, trivial⟩
def f_X10_share  (M : Mem) : Option (Int × Int × Mem) :=
  lt1 (up M 84 0 0) fun M2 =>
  (f_X10_findsPairs M2).bind fun p6 =>
  if (p6 84 26) = 0 then
    some (0, 0, p6)
  else
    (f_X10_lones p6).bind fun p25 =>
    if p6 84 26 = 0 then none else
    some (w32 ((p6 84 26) - p25), p6 84 26, p6)
set_option maxRecDepth 20000 in
theorem ct_X10_share {G : Gl}  (M : Mem) {res : Int × Int × Mem}  (hf : f_X10_share  M = some res) : CtD G miX10_share yX10_share 4 [aR 84] M (pF res.1 res.2.1) res.2.2 := by
  refine CtD.of (L := [some (aR 84)]) mwX10_share rfl trivial nle ⟨rfl, trivial⟩ ?_
  unfold f_X10_share at hf
  refine R_aload_n dX10_share_0 rfl rfl ?_
  refine R_iconst dX10_share_1 (v := 0) rfl ?_
  obtain ⟨M2, hM2, hf⟩ := ltE hf
  refine R_put (ki := 0) dX10_share_2 cl10 flX10_117 o_84 (Or.inl fz10_0) rfl hM2 ?_
  refine R_aload_n dX10_share_5 rfl rfl ?_
  obtain ⟨p6, hp6, hf⟩ := bdE hf
  refine R_callV (As := []) (st := []) dX10_share_6 (ct_X10_findsPairs  _  hp6) mwX10_findsPairs mvX10_findsPairs mlX10_292 cl10 o_84 rfl rfl ⟨nle, nle, nle, nle⟩ nle rfl ?_
  refine R_aload_n dX10_share_9 rfl rfl ?_
  refine R_getI (ki := 26) dX10_share_10 cl10 flX10_264 o_84 ff10_26 rfl rfl ?_
  refine R_if_ne dX10_share_13 rfl (fun h13 => ?_) (fun h13 => ?_)
  · replace hf := inegE hf h13
    refine R_aload_n dX10_share_20 rfl rfl ?_
    refine R_getI (ki := 26) dX10_share_21 cl10 flX10_264 o_84 ff10_26 rfl rfl ?_
    refine R_aload_n dX10_share_24 rfl rfl ?_
    obtain ⟨p25, hp25, hf⟩ := bdE hf
    refine R_callV (As := []) (st := [aI (p6 84 26)]) dX10_share_25 (ct_X10_lones  _  hp25) mwX10_lones mvX10_lones mlX10_298 cl10 o_84 rfl rfl ⟨nle, nle, nle, nle⟩ nle rfl ?_
    refine R_isub dX10_share_28 rfl ?_
    refine R_i2f dX10_share_29 ?_
    refine R_aload_n dX10_share_30 rfl rfl ?_
    refine R_getI (ki := 26) dX10_share_31 cl10 flX10_264 o_84 ff10_26 rfl rfl ?_
    refine R_i2f dX10_share_34 ?_
    obtain ⟨hz, hf⟩ := gnE hf
    refine R_fdiv dX10_share_35 (fun r35 hq35 => ?_)
    cases hf; exact E_fret dX10_share_36 rfl (by unfold pF; rw [if_neg hz]; exact ⟨_, rfl, hq35⟩) rfl
  · replace hf := iposE hf h13
    refine R_fconst1 dX10_share_16 ?_
    refine R_goto dX10_share_17 rfl ?_
    cases hf; exact E_fret dX10_share_36 rfl (by unfold pF; rw [if_pos rfl]) rfl
