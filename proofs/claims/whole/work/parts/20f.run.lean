/-! BracketHall.readNow()LBracketHall$Reading; -/
def f_X9_readNow  (M : Mem) : Option (Mem) :=
  if (M 0 16) = 0 then
    some M
  else
    (f_X5_read 54 14 11 (-1) M).bind fun p20 =>
    (f_X5_pairUp 54 p20).bind fun p27 =>
    (f_X5_measureDepths 54 p27).bind fun p34 =>
    lt1 (up p34 0 16 0) fun M39 =>
    some M39
set_option maxRecDepth 20000 in
theorem ct_X9_readNow {G : Gl}  (M : Mem) {res : Mem}  (hf : f_X9_readNow  M = some res) : Ct G miX9_readNow yX9_readNow 3 [aR 0] M (some (aR 54)) res := by
  refine Ct.of (L := [some (aR 0)]) mwX9_readNow rfl trivial nle ⟨rfl, trivial⟩ ?_
  unfold f_X9_readNow at hf
  refine R_aload_n dX9_readNow_0 rfl rfl ?_
  refine R_getI (ki := 16) dX9_readNow_1 cl9 flX9_99 o_0 ff9_16 rfl rfl ?_
  refine R_if_eq dX9_readNow_4 rfl (fun h4 => ?_) (fun h4 => ?_)
  · replace hf := iposE hf h4
    refine R_aload_n dX9_readNow_42 rfl rfl ?_
    refine R_getR dX9_readNow_43 cl9 flX9_74 o_0 ff9_10 (fr9_10 _) o_54.1 ?_
    cases hf; exact E_aret dX9_readNow_46 rfl rfl rfl
  · replace hf := inegE hf h4
    refine R_aload_n dX9_readNow_7 rfl rfl ?_
    refine R_getR dX9_readNow_8 cl9 flX9_74 o_0 ff9_10 (fr9_10 _) o_54.1 ?_
    refine R_aload_n dX9_readNow_11 rfl rfl ?_
    refine R_getR dX9_readNow_12 cl9 flX9_49 o_0 ff9_5 (fr9_5 _) o_14.1 ?_
    refine R_aload_n dX9_readNow_15 rfl rfl ?_
    refine R_getR dX9_readNow_16 cl9 flX9_42 o_0 ff9_4 (fr9_4 _) o_11.1 ?_
    refine R_iconst dX9_readNow_19 (v := (-1)) rfl ?_
    obtain ⟨p20, hp20, hf⟩ := bdE hf
    refine R_callV (As := [aR 14, aR 11, aI (-1)]) (st := []) dX9_readNow_20 (ct_X5_read _ _ _ _ _ o_54 o_14 o_11 hp20) mwX5_read mvX5_read mlX9_427 cl5 o_54 rfl rfl ⟨nle, nle, nle, nle⟩ nle rfl ?_
    refine R_aload_n dX9_readNow_23 rfl rfl ?_
    refine R_getR dX9_readNow_24 cl9 flX9_74 o_0 ff9_10 (fr9_10 _) o_54.1 ?_
    obtain ⟨p27, hp27, hf⟩ := bdE hf
    refine R_callV (As := []) (st := []) dX9_readNow_27 (ct_X5_pairUp _ _ o_54 hp27) mwX5_pairUp mvX5_pairUp mlX9_431 cl5 o_54 rfl rfl ⟨nle, nle, nle, nle⟩ nle rfl ?_
    refine R_aload_n dX9_readNow_30 rfl rfl ?_
    refine R_getR dX9_readNow_31 cl9 flX9_74 o_0 ff9_10 (fr9_10 _) o_54.1 ?_
    obtain ⟨p34, hp34, hf⟩ := bdE hf
    refine R_callV (As := []) (st := []) dX9_readNow_34 (ct_X5_measureDepths _ _ o_54 hp34) mwX5_measureDepths mvX5_measureDepths mlX9_434 cl5 o_54 rfl rfl ⟨nle, nle, nle, nle⟩ nle rfl ?_
    refine R_aload_n dX9_readNow_37 rfl rfl ?_
    refine R_iconst dX9_readNow_38 (v := 0) rfl ?_
    obtain ⟨M39, hM39, hf⟩ := ltE hf
    refine R_put (ki := 16) dX9_readNow_39 cl9 flX9_99 o_0 (Or.inr ⟨fz9_16, by decide⟩) rfl hM39 ?_
    refine R_aload_n dX9_readNow_42 rfl rfl ?_
    refine R_getR dX9_readNow_43 cl9 flX9_74 o_0 ff9_10 (fr9_10 _) o_54.1 ?_
    cases hf; exact E_aret dX9_readNow_46 rfl rfl rfl
/-! BracketHall.load(I)I -/
def f_X9_load_K40 (v2 : Int) (M : Mem) : Option (Nat × Int × Mem) :=
  lt1 (up M 1 1 0) fun M45 =>
  if v2 = 0 then
    (f_X9_readNow M45).bind fun p53 =>
    some (0, p53 54 6, p53)
  else
    some (0, v2, M45)
def f_X9_load (v1 : Int) (M : Mem) : Option (Nat × Int × Mem) :=
  (f_X9_askInput v1 M).bind fun p2 => if p2.1 = 0 then
  (f_X9_refusalOf v1 0 p2.2.2).bind fun p8 =>
  if p8 = 0 then
    (f_X4_clearText 14 p2.2.2).bind fun p20 =>
    (f_X4_putIn 14 0 v1 p20).bind fun p33 =>
    (f_X9_startAnew p33).bind fun p37 =>
    f_X9_load_K40 p8 p37
  else
    f_X9_load_K40 p8 p2.2.2
  else some (p2.1, 0, p2.2.2)
set_option maxRecDepth 20000 in
theorem rn_X9_load_K40 {G : Gl} (v2 : Int) (M : Mem) (res : Nat × Int × Mem)  (hf : f_X9_load_K40 v2 M = some res) : Run G false (rmD 7 1 6) miX9_load (ZX G 1 6 res.1 (some (aI res.2.1)) res.2.2) 1 6 40 [some (aR 0), none, some (aI v2)] [] M := by
  unfold f_X9_load_K40 at hf
  refine R_aload_n dX9_load_40 rfl rfl ?_
  refine R_getR dX9_load_41 cl9 flX9_12 o_0 ff9_0 (fr9_0 _) o_1.1 ?_
  refine R_iconst dX9_load_44 (v := 0) rfl ?_
  obtain ⟨M45, hM45, hf⟩ := ltE hf
  refine R_put (ki := 1) dX9_load_45 cl1 flX9_110 o_1 (Or.inl fz1_1) rfl hM45 ?_
  refine R_iload_n dX9_load_48 rfl rfl ?_
  refine R_if_ne dX9_load_49 rfl (fun h49 => ?_) (fun h49 => ?_)
  · replace hf := inegE hf h49
    refine R_iload_n dX9_load_62 rfl rfl ?_
    cases hf; exact R_widen nle nle (EX_iret dX9_load_63 rfl rfl rfl rfl)
  · replace hf := iposE hf h49
    refine R_aload_n dX9_load_52 rfl rfl ?_
    obtain ⟨p53, hp53, hf⟩ := bdE hf
    refine R_callV (As := []) (st := []) dX9_load_53 (ct_X9_readNow  _  hp53) mwX9_readNow mvX9_readNow mlX9_165 cl9 o_0 rfl rfl ⟨nle, nle, nle, nle⟩ nle rfl ?_
    refine R_getI (ki := 6) dX9_load_56 cl5 flX9_169 o_54 ff5_6 rfl rfl ?_
    refine R_goto dX9_load_59 rfl ?_
    cases hf; exact R_widen nle nle (EX_iret dX9_load_63 rfl rfl rfl rfl)
set_option maxRecDepth 20000 in
theorem ct_X9_load {G : Gl} (v1 : Int) (M : Mem) {res : Nat × Int × Mem}  (hf : f_X9_load v1 M = some res) : CtX G miX9_load yX9_load 7 1 6 [aR 0, aI v1] M res.1 (some (aI res.2.1)) res.2.2 := by
  refine CtX.of (L := [some (aR 0), some (aI v1), none]) mwX9_load rfl trivial nle ⟨rfl, rfl, trivial⟩ ?_
  unfold f_X9_load at hf
  refine R_aload_n dX9_load_0 rfl rfl ?_
  refine R_iload_n dX9_load_1 rfl rfl ?_
  obtain ⟨p2, hp2, hf⟩ := bdE hf
  refine R_callVX (As := [aI v1]) (st := []) dX9_load_2 (ct_X9_askInput _ _  hp2) mwX9_askInput mvX9_askInput wd710 cl9 o_0 rfl rfl ⟨nle, nle, nle, nle⟩ nle rfl rfl nle nle (fun h2 => ?_) (fun h2 => ?_)
  · replace hf := inegE hf h2; cases hf; exact ⟨rfl, rfl⟩
  replace hf := iposE hf h2
  refine R_aload_n dX9_load_5 rfl rfl ?_
  refine R_iload_n dX9_load_6 rfl rfl ?_
  refine R_iconst dX9_load_7 (v := 0) rfl ?_
  obtain ⟨p8, hp8, hf⟩ := bdE hf
  refine R_callV (As := [aI v1, aI 0]) (st := []) dX9_load_8 (ct_X9_refusalOf _ _ _  hp8) mwX9_refusalOf mvX9_refusalOf mlX9_158 cl9 o_0 rfl rfl ⟨nle, nle, nle, nle⟩ nle rfl ?_
  refine R_istore_n dX9_load_11 rfl (by decide) rfl rfl ?_
  refine R_iload_n dX9_load_12 rfl rfl ?_
  refine R_if_ne dX9_load_13 rfl (fun h13 => ?_) (fun h13 => ?_)
  · replace hf := inegE hf h13
    exact R_subk (R_widen nle nle (rn_X9_load_K40 _ _ _  hf)) ⟨rfl, rfl, trivial⟩
  · replace hf := iposE hf h13
    refine R_aload_n dX9_load_16 rfl rfl ?_
    refine R_getR dX9_load_17 cl9 flX9_49 o_0 ff9_5 (fr9_5 _) o_14.1 ?_
    obtain ⟨p20, hp20, hf⟩ := bdE hf
    refine R_callV (As := []) (st := []) dX9_load_20 (ct_X4_clearText _ _ o_14 hp20) mwX4_clearText mvX4_clearText mlX9_135 cl4 o_14 rfl rfl ⟨nle, nle, nle, nle⟩ nle rfl ?_
    refine R_aload_n dX9_load_23 rfl rfl ?_
    refine R_getR dX9_load_24 cl9 flX9_49 o_0 ff9_5 (fr9_5 _) o_14.1 ?_
    refine R_iconst dX9_load_27 (v := 0) rfl ?_
    refine R_aload_n dX9_load_28 rfl rfl ?_
    refine R_getR dX9_load_29 cl9 flX9_12 o_0 ff9_0 (fr9_0 _) o_1.1 ?_
    refine R_iload_n dX9_load_32 rfl rfl ?_
    obtain ⟨p33, hp33, hf⟩ := bdE hf
    refine R_callV (As := [aI 0, aR 1, aI v1]) (st := []) dX9_load_33 (ct_X4_putIn _ _ _ _ o_14 hp33) mwX4_putIn mvX4_putIn mlX9_161 cl4 o_14 rfl rfl ⟨nle, nle, nle, nle⟩ nle rfl ?_
    refine R_aload_n dX9_load_36 rfl rfl ?_
    obtain ⟨p37, hp37, hf⟩ := bdE hf
    refine R_callV (As := []) (st := []) dX9_load_37 (ct_X9_startAnew  _  hp37) mwX9_startAnew mvX9_startAnew mlX9_155 cl9 o_0 rfl rfl ⟨nle, nle, nle, nle⟩ nle rfl ?_
    exact R_subk (R_widen nle nle (rn_X9_load_K40 _ _ _  hf)) ⟨rfl, rfl, trivial⟩
/-! BracketHall.errorPosition()I -/
def f_X9_errorPosition  (M : Mem) : Option (Int) :=
  some (M 0 15)
set_option maxRecDepth 20000 in
theorem ct_X9_errorPosition {G : Gl}  (M : Mem) {res : Int}  (hf : f_X9_errorPosition  M = some res) : Ct G miX9_errorPosition yX9_errorPosition 0 [aR 0] M (some (aI res)) M := by
  refine Ct.of (L := [some (aR 0)]) mwX9_errorPosition rfl trivial nle ⟨rfl, trivial⟩ ?_
  unfold f_X9_errorPosition at hf
  refine R_aload_n dX9_errorPosition_0 rfl rfl ?_
  refine R_getI (ki := 15) dX9_errorPosition_1 cl9 flX9_96 o_0 ff9_15 rfl rfl ?_
  cases hf; exact E_iret dX9_errorPosition_4 rfl rfl rfl
/-! BracketHall.size(I)I -/
def f_X9_size (v1 : Int) (M : Mem) : Option (Nat × Int × Mem) :=
  if v1 = 0 then
    some (0, M 14 2, M)
  else if v1 = 1 then
    (f_X9_readNow M).bind fun p81 =>
    some (0, p81 54 6, p81)
  else if v1 = 2 then
    (f_X9_readNow M).bind fun p89 =>
    some (0, p89 54 7, p89)
  else if v1 = 3 then
    (f_X9_readNow M).bind fun p97 =>
    (f_X5_lones 54 p97).bind fun p100 =>
    some (0, p100, p97)
  else if v1 = 4 then
    some (0, M 11 2, M)
  else if v1 = 5 then
    some (0, M 14 4, M)
  else if v1 = 6 then
    (f_X9_readNow M).bind fun p121 =>
    some (0, p121 54 9, p121)
  else if v1 = 7 then
    (f_X4_lineOf 14 (M 14 2) M).bind fun p139 =>
    some (0, w32 (p139 + 1), M)
  else if v1 = 8 then
    some (0, M 14 3, M)
  else if v1 = 9 then
    some (0, M 20 2, M)
  else if v1 = 10 then
    (f_X9_readNow M).bind fun p162 =>
    some (0, p162 54 8, p162)
  else if v1 = 11 then
    some (0, M 14 5, M)
  else if v1 = 12 then
    some (0, M 14 6, M)
  else if v1 = 13 then
    some (0, M 14 7, M)
  else
    some (2, 0, M)
set_option maxRecDepth 20000 in
theorem ct_X9_size {G : Gl} (v1 : Int) (M : Mem) {res : Nat × Int × Mem}  (hf : f_X9_size v1 M = some res) : CtX G miX9_size yX9_size 6 1 6 [aR 0, aI v1] M res.1 (some (aI res.2.1)) res.2.2 := by
  refine CtX.of (L := [some (aR 0), some (aI v1)]) mwX9_size rfl trivial nle ⟨rfl, rfl, trivial⟩ ?_
  unfold f_X9_size at hf
  refine R_iload_n dX9_size_0 rfl rfl ?_
  by_cases h1_0 : v1 = 0
  · replace hf := iposE hf h1_0
    refine R_switchIn dX9_size_1 (by omega) (by omega) (by rw [h1_0]; rfl) rfl ?_
    refine R_aload_n dX9_size_72 rfl rfl ?_
    refine R_getR dX9_size_73 cl9 flX9_49 o_0 ff9_5 (fr9_5 _) o_14.1 ?_
    refine R_getI (ki := 2) dX9_size_76 cl4 flX9_172 o_14 ff4_2 rfl rfl ?_
    cases hf; exact R_widen nle nle (EX_iret dX9_size_79 rfl rfl rfl rfl)
  replace hf := inegE hf h1_0
  by_cases h1_1 : v1 = 1
  · replace hf := iposE hf h1_1
    refine R_switchIn dX9_size_1 (by omega) (by omega) (by rw [h1_1]; rfl) rfl ?_
    refine R_aload_n dX9_size_80 rfl rfl ?_
    obtain ⟨p81, hp81, hf⟩ := bdE hf
    refine R_callV (As := []) (st := []) dX9_size_81 (ct_X9_readNow  _  hp81) mwX9_readNow mvX9_readNow mlX9_165 cl9 o_0 rfl rfl ⟨nle, nle, nle, nle⟩ nle rfl ?_
    refine R_getI (ki := 6) dX9_size_84 cl5 flX9_169 o_54 ff5_6 rfl rfl ?_
    cases hf; exact R_widen nle nle (EX_iret dX9_size_87 rfl rfl rfl rfl)
  replace hf := inegE hf h1_1
  by_cases h1_2 : v1 = 2
  · replace hf := iposE hf h1_2
    refine R_switchIn dX9_size_1 (by omega) (by omega) (by rw [h1_2]; rfl) rfl ?_
    refine R_aload_n dX9_size_88 rfl rfl ?_
    obtain ⟨p89, hp89, hf⟩ := bdE hf
    refine R_callV (As := []) (st := []) dX9_size_89 (ct_X9_readNow  _  hp89) mwX9_readNow mvX9_readNow mlX9_165 cl9 o_0 rfl rfl ⟨nle, nle, nle, nle⟩ nle rfl ?_
    refine R_getI (ki := 7) dX9_size_92 cl5 flX9_173 o_54 ff5_7 rfl rfl ?_
    cases hf; exact R_widen nle nle (EX_iret dX9_size_95 rfl rfl rfl rfl)
  replace hf := inegE hf h1_2
  by_cases h1_3 : v1 = 3
  · replace hf := iposE hf h1_3
    refine R_switchIn dX9_size_1 (by omega) (by omega) (by rw [h1_3]; rfl) rfl ?_
    refine R_aload_n dX9_size_96 rfl rfl ?_
    obtain ⟨p97, hp97, hf⟩ := bdE hf
    refine R_callV (As := []) (st := []) dX9_size_97 (ct_X9_readNow  _  hp97) mwX9_readNow mvX9_readNow mlX9_165 cl9 o_0 rfl rfl ⟨nle, nle, nle, nle⟩ nle rfl ?_
    obtain ⟨p100, hp100, hf⟩ := bdE hf
    refine R_callV (As := []) (st := []) dX9_size_100 (ct_X5_lones _ _ o_54 hp100) mwX5_lones mvX5_lones mlX9_176 cl5 o_54 rfl rfl ⟨nle, nle, nle, nle⟩ nle rfl ?_
    cases hf; exact R_widen nle nle (EX_iret dX9_size_103 rfl rfl rfl rfl)
  replace hf := inegE hf h1_3
  by_cases h1_4 : v1 = 4
  · replace hf := iposE hf h1_4
    refine R_switchIn dX9_size_1 (by omega) (by omega) (by rw [h1_4]; rfl) rfl ?_
    refine R_aload_n dX9_size_104 rfl rfl ?_
    refine R_getR dX9_size_105 cl9 flX9_42 o_0 ff9_4 (fr9_4 _) o_11.1 ?_
    refine R_getI (ki := 2) dX9_size_108 cl7 flX9_180 o_11 ff7_2 rfl rfl ?_
    cases hf; exact R_widen nle nle (EX_iret dX9_size_111 rfl rfl rfl rfl)
  replace hf := inegE hf h1_4
  by_cases h1_5 : v1 = 5
  · replace hf := iposE hf h1_5
    refine R_switchIn dX9_size_1 (by omega) (by omega) (by rw [h1_5]; rfl) rfl ?_
    refine R_aload_n dX9_size_112 rfl rfl ?_
    refine R_getR dX9_size_113 cl9 flX9_49 o_0 ff9_5 (fr9_5 _) o_14.1 ?_
    refine R_getI (ki := 4) dX9_size_116 cl4 flX9_141 o_14 ff4_4 rfl rfl ?_
    cases hf; exact R_widen nle nle (EX_iret dX9_size_119 rfl rfl rfl rfl)
  replace hf := inegE hf h1_5
  by_cases h1_6 : v1 = 6
  · replace hf := iposE hf h1_6
    refine R_switchIn dX9_size_1 (by omega) (by omega) (by rw [h1_6]; rfl) rfl ?_
    refine R_aload_n dX9_size_120 rfl rfl ?_
    obtain ⟨p121, hp121, hf⟩ := bdE hf
    refine R_callV (As := []) (st := []) dX9_size_121 (ct_X9_readNow  _  hp121) mwX9_readNow mvX9_readNow mlX9_165 cl9 o_0 rfl rfl ⟨nle, nle, nle, nle⟩ nle rfl ?_
    refine R_getI (ki := 9) dX9_size_124 cl5 flX9_183 o_54 ff5_9 rfl rfl ?_
    cases hf; exact R_widen nle nle (EX_iret dX9_size_127 rfl rfl rfl rfl)
  replace hf := inegE hf h1_6
  by_cases h1_7 : v1 = 7
  · replace hf := iposE hf h1_7
    refine R_switchIn dX9_size_1 (by omega) (by omega) (by rw [h1_7]; rfl) rfl ?_
    refine R_aload_n dX9_size_128 rfl rfl ?_
    refine R_getR dX9_size_129 cl9 flX9_49 o_0 ff9_5 (fr9_5 _) o_14.1 ?_
    refine R_aload_n dX9_size_132 rfl rfl ?_
    refine R_getR dX9_size_133 cl9 flX9_49 o_0 ff9_5 (fr9_5 _) o_14.1 ?_
    refine R_getI (ki := 2) dX9_size_136 cl4 flX9_172 o_14 ff4_2 rfl rfl ?_
    obtain ⟨p139, hp139, hf⟩ := bdE hf
    refine R_callV (As := [aI (M 14 2)]) (st := []) dX9_size_139 (ct_X4_lineOf _ _ _ o_14 hp139) mwX4_lineOf mvX4_lineOf mlX9_186 cl4 o_14 rfl rfl ⟨nle, nle, nle, nle⟩ nle rfl ?_
    refine R_iconst dX9_size_142 (v := 1) rfl ?_
    refine R_iadd dX9_size_143 rfl ?_
    cases hf; exact R_widen nle nle (EX_iret dX9_size_144 rfl rfl rfl rfl)
  replace hf := inegE hf h1_7
  by_cases h1_8 : v1 = 8
  · replace hf := iposE hf h1_8
    refine R_switchIn dX9_size_1 (by omega) (by omega) (by rw [h1_8]; rfl) rfl ?_
    refine R_aload_n dX9_size_145 rfl rfl ?_
    refine R_getR dX9_size_146 cl9 flX9_49 o_0 ff9_5 (fr9_5 _) o_14.1 ?_
    refine R_getI (ki := 3) dX9_size_149 cl4 flX9_190 o_14 ff4_3 rfl rfl ?_
    cases hf; exact R_widen nle nle (EX_iret dX9_size_152 rfl rfl rfl rfl)
  replace hf := inegE hf h1_8
  by_cases h1_9 : v1 = 9
  · replace hf := iposE hf h1_9
    refine R_switchIn dX9_size_1 (by omega) (by omega) (by rw [h1_9]; rfl) rfl ?_
    refine R_aload_n dX9_size_153 rfl rfl ?_
    refine R_getR dX9_size_154 cl9 flX9_59 o_0 ff9_7 (fr9_7 _) o_20.1 ?_
    refine R_getI (ki := 2) dX9_size_157 cl0 flX9_193 o_20 ff0_2 rfl rfl ?_
    cases hf; exact R_widen nle nle (EX_iret dX9_size_160 rfl rfl rfl rfl)
  replace hf := inegE hf h1_9
  by_cases h1_10 : v1 = 10
  · replace hf := iposE hf h1_10
    refine R_switchIn dX9_size_1 (by omega) (by omega) (by rw [h1_10]; rfl) rfl ?_
    refine R_aload_n dX9_size_161 rfl rfl ?_
    obtain ⟨p162, hp162, hf⟩ := bdE hf
    refine R_callV (As := []) (st := []) dX9_size_162 (ct_X9_readNow  _  hp162) mwX9_readNow mvX9_readNow mlX9_165 cl9 o_0 rfl rfl ⟨nle, nle, nle, nle⟩ nle rfl ?_
    refine R_getI (ki := 8) dX9_size_165 cl5 flX9_196 o_54 ff5_8 rfl rfl ?_
    cases hf; exact R_widen nle nle (EX_iret dX9_size_168 rfl rfl rfl rfl)
  replace hf := inegE hf h1_10
  by_cases h1_11 : v1 = 11
  · replace hf := iposE hf h1_11
    refine R_switchIn dX9_size_1 (by omega) (by omega) (by rw [h1_11]; rfl) rfl ?_
    refine R_aload_n dX9_size_169 rfl rfl ?_
    refine R_getR dX9_size_170 cl9 flX9_49 o_0 ff9_5 (fr9_5 _) o_14.1 ?_
    refine R_getI (ki := 5) dX9_size_173 cl4 flX9_199 o_14 ff4_5 rfl rfl ?_
    cases hf; exact R_widen nle nle (EX_iret dX9_size_176 rfl rfl rfl rfl)
  replace hf := inegE hf h1_11
  by_cases h1_12 : v1 = 12
  · replace hf := iposE hf h1_12
    refine R_switchIn dX9_size_1 (by omega) (by omega) (by rw [h1_12]; rfl) rfl ?_
    refine R_aload_n dX9_size_177 rfl rfl ?_
    refine R_getR dX9_size_178 cl9 flX9_49 o_0 ff9_5 (fr9_5 _) o_14.1 ?_
    refine R_getI (ki := 6) dX9_size_181 cl4 flX9_200 o_14 ff4_6 rfl rfl ?_
    cases hf; exact R_widen nle nle (EX_iret dX9_size_184 rfl rfl rfl rfl)
  replace hf := inegE hf h1_12
  by_cases h1_13 : v1 = 13
  · replace hf := iposE hf h1_13
    refine R_switchIn dX9_size_1 (by omega) (by omega) (by rw [h1_13]; rfl) rfl ?_
    refine R_aload_n dX9_size_185 rfl rfl ?_
    refine R_getR dX9_size_186 cl9 flX9_49 o_0 ff9_5 (fr9_5 _) o_14.1 ?_
    refine R_getI (ki := 7) dX9_size_189 cl4 flX9_201 o_14 ff4_7 rfl rfl ?_
    cases hf; exact R_widen nle nle (EX_iret dX9_size_192 rfl rfl rfl rfl)
  replace hf := inegE hf h1_13
  refine R_switchOut dX9_size_1 (by omega) rfl ?_
  cases hf; exact R_throw (j := 7) (x := 2) (cls := "java/lang/IllegalArgumentException") dX9_size_193 dX9_size_196 dX9_size_197 dX9_size_199 dX9_size_202 wd714 xwX9_206 xi_2 rfl rfl (by decide +kernel) (by decide) (by decide) (by decide) ⟨nle, nle⟩ ⟨nle, nle⟩ rfl rfl rfl
/-! BracketHall.askByte(I)V -/
def f_X9_askByte (v1 : Int) (M : Mem) : Option (Nat × Int × Mem) :=
  (f_X4_hasByte 14 v1 M).bind fun p5 =>
  if p5 = 0 then
    some (1, 0, M)
  else
    some (0, 0, M)
set_option maxRecDepth 20000 in
theorem ct_X9_askByte {G : Gl} (v1 : Int) (M : Mem) {res : Nat × Int × Mem}  (hf : f_X9_askByte v1 M = some res) : CtX G miX9_askByte yX9_askByte 6 1 6 [aR 0, aI v1] M res.1 none res.2.2 := by
  refine CtX.of (L := [some (aR 0), some (aI v1)]) mwX9_askByte rfl trivial nle ⟨rfl, rfl, trivial⟩ ?_
  unfold f_X9_askByte at hf
  refine R_aload_n dX9_askByte_0 rfl rfl ?_
  refine R_getR dX9_askByte_1 cl9 flX9_49 o_0 ff9_5 (fr9_5 _) o_14.1 ?_
  refine R_iload_n dX9_askByte_4 rfl rfl ?_
  obtain ⟨p5, hp5, hf⟩ := bdE hf
  refine R_callV (As := [aI v1]) (st := []) dX9_askByte_5 (ct_X4_hasByte _ _ _ o_14 hp5) mwX4_hasByte mvX4_hasByte mlX9_394 cl4 o_14 rfl rfl ⟨nle, nle, nle, nle⟩ nle rfl ?_
  refine R_if_ne dX9_askByte_8 rfl (fun h8 => ?_) (fun h8 => ?_)
  · replace hf := inegE hf h8
    cases hf; exact R_widen nle nle (EX_vret dX9_askByte_22 rfl rfl rfl)
  · replace hf := iposE hf h8
    cases hf; exact R_throwW (j := 8) (x := 1) (cls := "java/lang/IndexOutOfBoundsException") dX9_askByte_11 dX9_askByte_14 dX9_askByte_15 dX9_askByte_18 dX9_askByte_21 wd991 xwX9_401 xi_1 rfl rfl (by decide +kernel) (by decide) (by decide) (by decide) ⟨nle, nle⟩ ⟨nle, nle⟩ rfl rfl rfl
/-! BracketHall.colourOf(I)I -/
def f_X9_colourOf (v1 : Int) (M : Mem) : Option (Int × Mem) :=
  (f_X9_readNow M).bind fun p1 =>
  (f_X5_partnerOf 54 v1 p1).bind fun p5 =>
  if p5 = (-1) then
    some ((-1), p1)
  else
    if 1 ≤ (p1 14 4) then
      (f_X9_readNow p1).bind fun p26 =>
      (f_X5_depthOf 54 v1 p26).bind fun p30 =>
      if p26 14 4 = 0 then none else
      some (irm p30 (p26 14 4), p26)
    else
      some ((-1), p1)
set_option maxRecDepth 20000 in
theorem ct_X9_colourOf {G : Gl} (v1 : Int) (M : Mem) {res : Int × Mem}  (hf : f_X9_colourOf v1 M = some res) : Ct G miX9_colourOf yX9_colourOf 4 [aR 0, aI v1] M (some (aI res.1)) res.2 := by
  refine Ct.of (L := [some (aR 0), some (aI v1)]) mwX9_colourOf rfl trivial nle ⟨rfl, rfl, trivial⟩ ?_
  unfold f_X9_colourOf at hf
  refine R_aload_n dX9_colourOf_0 rfl rfl ?_
  obtain ⟨p1, hp1, hf⟩ := bdE hf
  refine R_callV (As := []) (st := []) dX9_colourOf_1 (ct_X9_readNow  _  hp1) mwX9_readNow mvX9_readNow mlX9_165 cl9 o_0 rfl rfl ⟨nle, nle, nle, nle⟩ nle rfl ?_
  refine R_iload_n dX9_colourOf_4 rfl rfl ?_
  obtain ⟨p5, hp5, hf⟩ := bdE hf
  refine R_callV (As := [aI v1]) (st := []) dX9_colourOf_5 (ct_X5_partnerOf _ _ _ o_54 hp5) mwX5_partnerOf mvX5_partnerOf mlX9_221 cl5 o_54 rfl rfl ⟨nle, nle, nle, nle⟩ nle rfl ?_
  refine R_iconst dX9_colourOf_8 (v := (-1)) rfl ?_
  refine R_icmp_eq dX9_colourOf_9 rfl (fun h9 => ?_) (fun h9 => ?_)
  · replace hf := iposE hf h9
    refine R_iconst dX9_colourOf_23 (v := (-1)) rfl ?_
    cases hf; exact E_iret dX9_colourOf_24 rfl rfl rfl
  · replace hf := inegE hf h9
    refine R_aload_n dX9_colourOf_12 rfl rfl ?_
    refine R_getR dX9_colourOf_13 cl9 flX9_49 o_0 ff9_5 (fr9_5 _) o_14.1 ?_
    refine R_getI (ki := 4) dX9_colourOf_16 cl4 flX9_141 o_14 ff4_4 rfl rfl ?_
    refine R_iconst dX9_colourOf_19 (v := 1) rfl ?_
    refine R_icmp_ge dX9_colourOf_20 rfl (fun h20 => ?_) (fun h20 => ?_)
    · replace hf := iposE hf h20
      refine R_aload_n dX9_colourOf_25 rfl rfl ?_
      obtain ⟨p26, hp26, hf⟩ := bdE hf
      refine R_callV (As := []) (st := []) dX9_colourOf_26 (ct_X9_readNow  _  hp26) mwX9_readNow mvX9_readNow mlX9_165 cl9 o_0 rfl rfl ⟨nle, nle, nle, nle⟩ nle rfl ?_
      refine R_iload_n dX9_colourOf_29 rfl rfl ?_
      obtain ⟨p30, hp30, hf⟩ := bdE hf
      refine R_callV (As := [aI v1]) (st := []) dX9_colourOf_30 (ct_X5_depthOf _ _ _ o_54 hp30) mwX5_depthOf mvX5_depthOf mlX9_224 cl5 o_54 rfl rfl ⟨nle, nle, nle, nle⟩ nle rfl ?_
      refine R_aload_n dX9_colourOf_33 rfl rfl ?_
      refine R_getR dX9_colourOf_34 cl9 flX9_49 o_0 ff9_5 (fr9_5 _) o_14.1 ?_
      refine R_getI (ki := 4) dX9_colourOf_37 cl4 flX9_141 o_14 ff4_4 rfl rfl ?_
      obtain ⟨hz, hf⟩ := gnE hf
      refine R_irem dX9_colourOf_40 hz rfl ?_
      cases hf; exact E_iret dX9_colourOf_41 rfl rfl rfl
    · replace hf := inegE hf h20
      refine R_iconst dX9_colourOf_23 (v := (-1)) rfl ?_
      cases hf; exact E_iret dX9_colourOf_24 rfl rfl rfl
/-! BracketHall.look(II)I -/
def f_X9_look (v1 : Int) (v2 : Int) (M : Mem) : Option (Nat × Int × Mem) :=
  (f_X9_askByte v1 M).bind fun p2 => if p2.1 = 0 then
  if v2 = 0 then
    (f_X4_byteAt 14 v1 p2.2.2).bind fun p61 =>
    some (0, p61, p2.2.2)
  else if v2 = 1 then
    (f_X9_readNow p2.2.2).bind fun p66 =>
    (f_X5_kindOf 54 v1 p66).bind fun p70 =>
    some (0, p70, p66)
  else if v2 = 2 then
    (f_X9_readNow p2.2.2).bind fun p75 =>
    (f_X5_sideOf 54 v1 p75).bind fun p79 =>
    some (0, p79, p75)
  else if v2 = 3 then
    (f_X9_readNow p2.2.2).bind fun p84 =>
    (f_X5_partnerOf 54 v1 p84).bind fun p88 =>
    some (0, p88, p84)
  else if v2 = 4 then
    (f_X9_readNow p2.2.2).bind fun p93 =>
    (f_X5_depthOf 54 v1 p93).bind fun p97 =>
    some (0, p97, p93)
  else if v2 = 5 then
    (f_X9_colourOf v1 p2.2.2).bind fun p103 =>
    some (0, p103.1, p103.2)
  else if v2 = 6 then
    (f_X9_readNow p2.2.2).bind fun p108 =>
    (f_X5_hiddenAs 54 v1 p108).bind fun p112 =>
    some (0, p112, p108)
  else if v2 = 7 then
    (f_X4_lineOf 14 v1 p2.2.2).bind fun p121 =>
    some (0, p121, p2.2.2)
  else if v2 = 8 then
    (f_X4_columnOf 14 v1 p2.2.2).bind fun p130 =>
    some (0, p130, p2.2.2)
  else
    some (2, 0, p2.2.2)
  else some (p2.1, 0, p2.2.2)
set_option maxRecDepth 20000 in
theorem ct_X9_look {G : Gl} (v1 : Int) (v2 : Int) (M : Mem) {res : Nat × Int × Mem}  (hf : f_X9_look v1 v2 M = some res) : CtX G miX9_look yX9_look 7 2 12 [aR 0, aI v1, aI v2] M res.1 (some (aI res.2.1)) res.2.2 := by
  refine CtX.of (L := [some (aR 0), some (aI v1), some (aI v2)]) mwX9_look rfl trivial nle ⟨rfl, rfl, rfl, trivial⟩ ?_
  unfold f_X9_look at hf
  refine R_aload_n dX9_look_0 rfl rfl ?_
  refine R_iload_n dX9_look_1 rfl rfl ?_
  obtain ⟨p2, hp2, hf⟩ := bdE hf
  refine R_callVX (As := [aI v1]) (st := []) dX9_look_2 (ct_X9_askByte _ _  hp2) mwX9_askByte mvX9_askByte wd986 cl9 o_0 rfl rfl ⟨nle, nle, nle, nle⟩ nle rfl rfl nle nle (fun h2 => ?_) (fun h2 => ?_)
  · replace hf := inegE hf h2; cases hf; exact ⟨rfl, rfl⟩
  replace hf := iposE hf h2
  refine R_iload_n dX9_look_5 rfl rfl ?_
  by_cases h6_0 : v2 = 0
  · replace hf := iposE hf h6_0
    refine R_switchIn dX9_look_6 (by omega) (by omega) (by rw [h6_0]; rfl) rfl ?_
    refine R_aload_n dX9_look_56 rfl rfl ?_
    refine R_getR dX9_look_57 cl9 flX9_49 o_0 ff9_5 (fr9_5 _) o_14.1 ?_
    refine R_iload_n dX9_look_60 rfl rfl ?_
    obtain ⟨p61, hp61, hf⟩ := bdE hf
    refine R_callV (As := [aI v1]) (st := []) dX9_look_61 (ct_X4_byteAt _ _ _ o_14 hp61) mwX4_byteAt mvX4_byteAt mlX9_212 cl4 o_14 rfl rfl ⟨nle, nle, nle, nle⟩ nle rfl ?_
    cases hf; exact R_widen nle nle (EX_iret dX9_look_64 rfl rfl rfl rfl)
  replace hf := inegE hf h6_0
  by_cases h6_1 : v2 = 1
  · replace hf := iposE hf h6_1
    refine R_switchIn dX9_look_6 (by omega) (by omega) (by rw [h6_1]; rfl) rfl ?_
    refine R_aload_n dX9_look_65 rfl rfl ?_
    obtain ⟨p66, hp66, hf⟩ := bdE hf
    refine R_callV (As := []) (st := []) dX9_look_66 (ct_X9_readNow  _  hp66) mwX9_readNow mvX9_readNow mlX9_165 cl9 o_0 rfl rfl ⟨nle, nle, nle, nle⟩ nle rfl ?_
    refine R_iload_n dX9_look_69 rfl rfl ?_
    obtain ⟨p70, hp70, hf⟩ := bdE hf
    refine R_callV (As := [aI v1]) (st := []) dX9_look_70 (ct_X5_kindOf _ _ _ o_54 hp70) mwX5_kindOf mvX5_kindOf mlX9_215 cl5 o_54 rfl rfl ⟨nle, nle, nle, nle⟩ nle rfl ?_
    cases hf; exact R_widen nle nle (EX_iret dX9_look_73 rfl rfl rfl rfl)
  replace hf := inegE hf h6_1
  by_cases h6_2 : v2 = 2
  · replace hf := iposE hf h6_2
    refine R_switchIn dX9_look_6 (by omega) (by omega) (by rw [h6_2]; rfl) rfl ?_
    refine R_aload_n dX9_look_74 rfl rfl ?_
    obtain ⟨p75, hp75, hf⟩ := bdE hf
    refine R_callV (As := []) (st := []) dX9_look_75 (ct_X9_readNow  _  hp75) mwX9_readNow mvX9_readNow mlX9_165 cl9 o_0 rfl rfl ⟨nle, nle, nle, nle⟩ nle rfl ?_
    refine R_iload_n dX9_look_78 rfl rfl ?_
    obtain ⟨p79, hp79, hf⟩ := bdE hf
    refine R_callV (As := [aI v1]) (st := []) dX9_look_79 (ct_X5_sideOf _ _ _ o_54 hp79) mwX5_sideOf mvX5_sideOf mlX9_218 cl5 o_54 rfl rfl ⟨nle, nle, nle, nle⟩ nle rfl ?_
    cases hf; exact R_widen nle nle (EX_iret dX9_look_82 rfl rfl rfl rfl)
  replace hf := inegE hf h6_2
  by_cases h6_3 : v2 = 3
  · replace hf := iposE hf h6_3
    refine R_switchIn dX9_look_6 (by omega) (by omega) (by rw [h6_3]; rfl) rfl ?_
    refine R_aload_n dX9_look_83 rfl rfl ?_
    obtain ⟨p84, hp84, hf⟩ := bdE hf
    refine R_callV (As := []) (st := []) dX9_look_84 (ct_X9_readNow  _  hp84) mwX9_readNow mvX9_readNow mlX9_165 cl9 o_0 rfl rfl ⟨nle, nle, nle, nle⟩ nle rfl ?_
    refine R_iload_n dX9_look_87 rfl rfl ?_
    obtain ⟨p88, hp88, hf⟩ := bdE hf
    refine R_callV (As := [aI v1]) (st := []) dX9_look_88 (ct_X5_partnerOf _ _ _ o_54 hp88) mwX5_partnerOf mvX5_partnerOf mlX9_221 cl5 o_54 rfl rfl ⟨nle, nle, nle, nle⟩ nle rfl ?_
    cases hf; exact R_widen nle nle (EX_iret dX9_look_91 rfl rfl rfl rfl)
  replace hf := inegE hf h6_3
  by_cases h6_4 : v2 = 4
  · replace hf := iposE hf h6_4
    refine R_switchIn dX9_look_6 (by omega) (by omega) (by rw [h6_4]; rfl) rfl ?_
    refine R_aload_n dX9_look_92 rfl rfl ?_
    obtain ⟨p93, hp93, hf⟩ := bdE hf
    refine R_callV (As := []) (st := []) dX9_look_93 (ct_X9_readNow  _  hp93) mwX9_readNow mvX9_readNow mlX9_165 cl9 o_0 rfl rfl ⟨nle, nle, nle, nle⟩ nle rfl ?_
    refine R_iload_n dX9_look_96 rfl rfl ?_
    obtain ⟨p97, hp97, hf⟩ := bdE hf
    refine R_callV (As := [aI v1]) (st := []) dX9_look_97 (ct_X5_depthOf _ _ _ o_54 hp97) mwX5_depthOf mvX5_depthOf mlX9_224 cl5 o_54 rfl rfl ⟨nle, nle, nle, nle⟩ nle rfl ?_
    cases hf; exact R_widen nle nle (EX_iret dX9_look_100 rfl rfl rfl rfl)
  replace hf := inegE hf h6_4
  by_cases h6_5 : v2 = 5
  · replace hf := iposE hf h6_5
    refine R_switchIn dX9_look_6 (by omega) (by omega) (by rw [h6_5]; rfl) rfl ?_
    refine R_aload_n dX9_look_101 rfl rfl ?_
    refine R_iload_n dX9_look_102 rfl rfl ?_
    obtain ⟨p103, hp103, hf⟩ := bdE hf
    refine R_callV (As := [aI v1]) (st := []) dX9_look_103 (ct_X9_colourOf _ _  hp103) mwX9_colourOf mvX9_colourOf mlX9_227 cl9 o_0 rfl rfl ⟨nle, nle, nle, nle⟩ nle rfl ?_
    cases hf; exact R_widen nle nle (EX_iret dX9_look_106 rfl rfl rfl rfl)
  replace hf := inegE hf h6_5
  by_cases h6_6 : v2 = 6
  · replace hf := iposE hf h6_6
    refine R_switchIn dX9_look_6 (by omega) (by omega) (by rw [h6_6]; rfl) rfl ?_
    refine R_aload_n dX9_look_107 rfl rfl ?_
    obtain ⟨p108, hp108, hf⟩ := bdE hf
    refine R_callV (As := []) (st := []) dX9_look_108 (ct_X9_readNow  _  hp108) mwX9_readNow mvX9_readNow mlX9_165 cl9 o_0 rfl rfl ⟨nle, nle, nle, nle⟩ nle rfl ?_
    refine R_iload_n dX9_look_111 rfl rfl ?_
    obtain ⟨p112, hp112, hf⟩ := bdE hf
    refine R_callV (As := [aI v1]) (st := []) dX9_look_112 (ct_X5_hiddenAs _ _ _ o_54 hp112) mwX5_hiddenAs mvX5_hiddenAs mlX9_230 cl5 o_54 rfl rfl ⟨nle, nle, nle, nle⟩ nle rfl ?_
    cases hf; exact R_widen nle nle (EX_iret dX9_look_115 rfl rfl rfl rfl)
  replace hf := inegE hf h6_6
  by_cases h6_7 : v2 = 7
  · replace hf := iposE hf h6_7
    refine R_switchIn dX9_look_6 (by omega) (by omega) (by rw [h6_7]; rfl) rfl ?_
    refine R_aload_n dX9_look_116 rfl rfl ?_
    refine R_getR dX9_look_117 cl9 flX9_49 o_0 ff9_5 (fr9_5 _) o_14.1 ?_
    refine R_iload_n dX9_look_120 rfl rfl ?_
    obtain ⟨p121, hp121, hf⟩ := bdE hf
    refine R_callV (As := [aI v1]) (st := []) dX9_look_121 (ct_X4_lineOf _ _ _ o_14 hp121) mwX4_lineOf mvX4_lineOf mlX9_186 cl4 o_14 rfl rfl ⟨nle, nle, nle, nle⟩ nle rfl ?_
    cases hf; exact R_widen nle nle (EX_iret dX9_look_124 rfl rfl rfl rfl)
  replace hf := inegE hf h6_7
  by_cases h6_8 : v2 = 8
  · replace hf := iposE hf h6_8
    refine R_switchIn dX9_look_6 (by omega) (by omega) (by rw [h6_8]; rfl) rfl ?_
    refine R_aload_n dX9_look_125 rfl rfl ?_
    refine R_getR dX9_look_126 cl9 flX9_49 o_0 ff9_5 (fr9_5 _) o_14.1 ?_
    refine R_iload_n dX9_look_129 rfl rfl ?_
    obtain ⟨p130, hp130, hf⟩ := bdE hf
    refine R_callV (As := [aI v1]) (st := []) dX9_look_130 (ct_X4_columnOf _ _ _ o_14 hp130) mwX4_columnOf mvX4_columnOf mlX9_233 cl4 o_14 rfl rfl ⟨nle, nle, nle, nle⟩ nle rfl ?_
    cases hf; exact R_widen nle nle (EX_iret dX9_look_133 rfl rfl rfl rfl)
  replace hf := inegE hf h6_8
  refine R_switchOut dX9_look_6 (by omega) rfl ?_
  cases hf; exact R_throw (j := 9) (x := 2) (cls := "java/lang/IllegalArgumentException") dX9_look_134 dX9_look_137 dX9_look_138 dX9_look_140 dX9_look_143 wd714 xwX9_206 xi_2 rfl rfl (by decide +kernel) (by decide) (by decide) (by decide) ⟨nle, nle⟩ ⟨nle, nle⟩ rfl rfl rfl
/-! BracketHall.around(II)I -/
def f_X9_around (v1 : Int) (v2 : Int) (M : Mem) : Option (Nat × Int × Mem) :=
  (f_X9_askByte v1 M).bind fun p2 => if p2.1 = 0 then
  (f_X9_readNow p2.2.2).bind fun p6 =>
  (f_X5_pairAround 54 v1 v2 p6).bind fun p11 =>
  some (0, p11, p6)
  else some (p2.1, 0, p2.2.2)
set_option maxRecDepth 20000 in
theorem ct_X9_around {G : Gl} (v1 : Int) (v2 : Int) (M : Mem) {res : Nat × Int × Mem}  (hf : f_X9_around v1 v2 M = some res) : CtX G miX9_around yX9_around 7 1 6 [aR 0, aI v1, aI v2] M res.1 (some (aI res.2.1)) res.2.2 := by
  refine CtX.of (L := [some (aR 0), some (aI v1), some (aI v2)]) mwX9_around rfl trivial nle ⟨rfl, rfl, rfl, trivial⟩ ?_
  unfold f_X9_around at hf
  refine R_aload_n dX9_around_0 rfl rfl ?_
  refine R_iload_n dX9_around_1 rfl rfl ?_
  obtain ⟨p2, hp2, hf⟩ := bdE hf
  refine R_callVX (As := [aI v1]) (st := []) dX9_around_2 (ct_X9_askByte _ _  hp2) mwX9_askByte mvX9_askByte wd986 cl9 o_0 rfl rfl ⟨nle, nle, nle, nle⟩ nle rfl rfl nle nle (fun h2 => ?_) (fun h2 => ?_)
  · replace hf := inegE hf h2; cases hf; exact ⟨rfl, rfl⟩
  replace hf := iposE hf h2
  refine R_aload_n dX9_around_5 rfl rfl ?_
  obtain ⟨p6, hp6, hf⟩ := bdE hf
  refine R_callV (As := []) (st := []) dX9_around_6 (ct_X9_readNow  _  hp6) mwX9_readNow mvX9_readNow mlX9_165 cl9 o_0 rfl rfl ⟨nle, nle, nle, nle⟩ nle rfl ?_
  refine R_iload_n dX9_around_9 rfl rfl ?_
  refine R_iload_n dX9_around_10 rfl rfl ?_
  obtain ⟨p11, hp11, hf⟩ := bdE hf
  refine R_callV (As := [aI v1, aI v2]) (st := []) dX9_around_11 (ct_X5_pairAround _ _ _ _ o_54 hp11) mwX5_pairAround mvX5_pairAround mlX9_238 cl5 o_54 rfl rfl ⟨nle, nle, nle, nle⟩ nle rfl ?_
  cases hf; exact R_widen nle nle (EX_iret dX9_around_14 rfl rfl rfl rfl)
/-! BracketHall.askPaired(I)V -/
def f_X9_askPaired (v1 : Int) (M : Mem) : Option (Nat × Int × Mem) :=
  (f_X9_readNow M).bind fun p1 =>
  (f_X5_partnerOf 54 v1 p1).bind fun p5 =>
  if p5 = (-1) then
    some (3, 0, p1)
  else
    some (0, 0, p1)
set_option maxRecDepth 20000 in
theorem ct_X9_askPaired {G : Gl} (v1 : Int) (M : Mem) {res : Nat × Int × Mem}  (hf : f_X9_askPaired v1 M = some res) : CtX G miX9_askPaired yX9_askPaired 6 1 6 [aR 0, aI v1] M res.1 none res.2.2 := by
  refine CtX.of (L := [some (aR 0), some (aI v1)]) mwX9_askPaired rfl trivial nle ⟨rfl, rfl, trivial⟩ ?_
  unfold f_X9_askPaired at hf
  refine R_aload_n dX9_askPaired_0 rfl rfl ?_
  obtain ⟨p1, hp1, hf⟩ := bdE hf
  refine R_callV (As := []) (st := []) dX9_askPaired_1 (ct_X9_readNow  _  hp1) mwX9_readNow mvX9_readNow mlX9_165 cl9 o_0 rfl rfl ⟨nle, nle, nle, nle⟩ nle rfl ?_
  refine R_iload_n dX9_askPaired_4 rfl rfl ?_
  obtain ⟨p5, hp5, hf⟩ := bdE hf
  refine R_callV (As := [aI v1]) (st := []) dX9_askPaired_5 (ct_X5_partnerOf _ _ _ o_54 hp5) mwX5_partnerOf mvX5_partnerOf mlX9_221 cl5 o_54 rfl rfl ⟨nle, nle, nle, nle⟩ nle rfl ?_
  refine R_iconst dX9_askPaired_8 (v := (-1)) rfl ?_
  refine R_icmp_ne dX9_askPaired_9 rfl (fun h9 => ?_) (fun h9 => ?_)
  · replace hf := inegE hf h9
    cases hf; exact R_widen nle nle (EX_vret dX9_askPaired_23 rfl rfl rfl)
  · replace hf := iposE hf h9
    cases hf; exact R_throwN (j := 10) (dl := 3) (Or.inr ⟨rfl, rfl⟩) dX9_askPaired_12 dX9_askPaired_15 dX9_askPaired_16 dX9_askPaired_19 dX9_askPaired_22 wd1040 xwX9_288 xi_3 rfl rfl (by decide) (by decide) ⟨nle, nle⟩ ⟨nle, nle⟩ rfl rfl rfl
/-! BracketHall.within(II)I -/
def f_X9_within (v1 : Int) (v2 : Int) (M : Mem) : Option (Nat × Int × Mem) :=
  (f_X9_askByte v1 M).bind fun p2 => if p2.1 = 0 then
  (f_X9_askPaired v1 p2.2.2).bind fun p7 => if p7.1 = 0 then
  (f_X9_readNow p7.2.2).bind fun p11 =>
  (f_X9_readNow p11).bind fun p15 =>
  (f_X5_openingOf 54 v1 p15).bind fun p19 =>
  (f_X5_pairWithin 54 p19 v2 p15).bind fun p23 =>
  some (0, p23, p15)
  else some (p7.1, 0, p7.2.2)
  else some (p2.1, 0, p2.2.2)
set_option maxRecDepth 20000 in
theorem ct_X9_within {G : Gl} (v1 : Int) (v2 : Int) (M : Mem) {res : Nat × Int × Mem}  (hf : f_X9_within v1 v2 M = some res) : CtX G miX9_within yX9_within 7 2 12 [aR 0, aI v1, aI v2] M res.1 (some (aI res.2.1)) res.2.2 := by
  refine CtX.of (L := [some (aR 0), some (aI v1), some (aI v2)]) mwX9_within rfl trivial nle ⟨rfl, rfl, rfl, trivial⟩ ?_
  unfold f_X9_within at hf
  refine R_aload_n dX9_within_0 rfl rfl ?_
  refine R_iload_n dX9_within_1 rfl rfl ?_
  obtain ⟨p2, hp2, hf⟩ := bdE hf
  refine R_callVX (As := [aI v1]) (st := []) dX9_within_2 (ct_X9_askByte _ _  hp2) mwX9_askByte mvX9_askByte wd986 cl9 o_0 rfl rfl ⟨nle, nle, nle, nle⟩ nle rfl rfl nle nle (fun h2 => ?_) (fun h2 => ?_)
  · replace hf := inegE hf h2; cases hf; exact ⟨rfl, rfl⟩
  replace hf := iposE hf h2
  refine R_aload_n dX9_within_5 rfl rfl ?_
  refine R_iload_n dX9_within_6 rfl rfl ?_
  obtain ⟨p7, hp7, hf⟩ := bdE hf
  refine R_callVX (As := [aI v1]) (st := []) dX9_within_7 (ct_X9_askPaired _ _  hp7) mwX9_askPaired mvX9_askPaired wd1036 cl9 o_0 rfl rfl ⟨nle, nle, nle, nle⟩ nle rfl rfl nle nle (fun h7 => ?_) (fun h7 => ?_)
  · replace hf := inegE hf h7; cases hf; exact ⟨rfl, rfl⟩
  replace hf := iposE hf h7
  refine R_aload_n dX9_within_10 rfl rfl ?_
  obtain ⟨p11, hp11, hf⟩ := bdE hf
  refine R_callV (As := []) (st := []) dX9_within_11 (ct_X9_readNow  _  hp11) mwX9_readNow mvX9_readNow mlX9_165 cl9 o_0 rfl rfl ⟨nle, nle, nle, nle⟩ nle rfl ?_
  refine R_aload_n dX9_within_14 rfl rfl ?_
  obtain ⟨p15, hp15, hf⟩ := bdE hf
  refine R_callV (As := []) (st := [aR 54]) dX9_within_15 (ct_X9_readNow  _  hp15) mwX9_readNow mvX9_readNow mlX9_165 cl9 o_0 rfl rfl ⟨nle, nle, nle, nle⟩ nle rfl ?_
  refine R_iload_n dX9_within_18 rfl rfl ?_
  obtain ⟨p19, hp19, hf⟩ := bdE hf
  refine R_callV (As := [aI v1]) (st := [aR 54]) dX9_within_19 (ct_X5_openingOf _ _ _ o_54 hp19) mwX5_openingOf mvX5_openingOf mlX9_244 cl5 o_54 rfl rfl ⟨nle, nle, nle, nle⟩ nle rfl ?_
  refine R_iload_n dX9_within_22 rfl rfl ?_
  obtain ⟨p23, hp23, hf⟩ := bdE hf
  refine R_callV (As := [aI p19, aI v2]) (st := []) dX9_within_23 (ct_X5_pairWithin _ _ _ _ o_54 hp23) mwX5_pairWithin mvX5_pairWithin mlX9_247 cl5 o_54 rfl rfl ⟨nle, nle, nle, nle⟩ nle rfl ?_
  cases hf; exact R_widen nle nle (EX_iret dX9_within_26 rfl rfl rfl rfl)
/-! BracketHall.beside(IZ)I -/
def f_X9_beside (v1 : Int) (v2 : Int) (M : Mem) : Option (Nat × Int × Mem) :=
  (f_X9_askByte v1 M).bind fun p2 => if p2.1 = 0 then
  (f_X9_askPaired v1 p2.2.2).bind fun p7 => if p7.1 = 0 then
  (f_X9_readNow p7.2.2).bind fun p11 =>
  (f_X5_openingOf 54 v1 p11).bind fun p15 =>
  if v2 = 0 then
    (f_X9_readNow p11).bind fun p35 =>
    (f_X5_pairAhead 54 p15 p35).bind fun p39 =>
    some (0, p39, p35)
  else
    (f_X9_readNow p11).bind fun p24 =>
    (f_X5_pairBehind 54 p15 p24).bind fun p28 =>
    some (0, p28, p24)
  else some (p7.1, 0, p7.2.2)
  else some (p2.1, 0, p2.2.2)
set_option maxRecDepth 20000 in
theorem ct_X9_beside {G : Gl} (v1 : Int) (v2 : Int) (M : Mem) {res : Nat × Int × Mem}  (hf : f_X9_beside v1 v2 M = some res) : CtX G miX9_beside yX9_beside 7 2 12 [aR 0, aI v1, aI v2] M res.1 (some (aI res.2.1)) res.2.2 := by
  refine CtX.of (L := [some (aR 0), some (aI v1), some (aI v2), none]) mwX9_beside rfl trivial nle ⟨rfl, rfl, rfl, trivial⟩ ?_
  unfold f_X9_beside at hf
  refine R_aload_n dX9_beside_0 rfl rfl ?_
  refine R_iload_n dX9_beside_1 rfl rfl ?_
  obtain ⟨p2, hp2, hf⟩ := bdE hf
  refine R_callVX (As := [aI v1]) (st := []) dX9_beside_2 (ct_X9_askByte _ _  hp2) mwX9_askByte mvX9_askByte wd986 cl9 o_0 rfl rfl ⟨nle, nle, nle, nle⟩ nle rfl rfl nle nle (fun h2 => ?_) (fun h2 => ?_)
  · replace hf := inegE hf h2; cases hf; exact ⟨rfl, rfl⟩
  replace hf := iposE hf h2
  refine R_aload_n dX9_beside_5 rfl rfl ?_
  refine R_iload_n dX9_beside_6 rfl rfl ?_
  obtain ⟨p7, hp7, hf⟩ := bdE hf
  refine R_callVX (As := [aI v1]) (st := []) dX9_beside_7 (ct_X9_askPaired _ _  hp7) mwX9_askPaired mvX9_askPaired wd1036 cl9 o_0 rfl rfl ⟨nle, nle, nle, nle⟩ nle rfl rfl nle nle (fun h7 => ?_) (fun h7 => ?_)
  · replace hf := inegE hf h7; cases hf; exact ⟨rfl, rfl⟩
  replace hf := iposE hf h7
  refine R_aload_n dX9_beside_10 rfl rfl ?_
  obtain ⟨p11, hp11, hf⟩ := bdE hf
  refine R_callV (As := []) (st := []) dX9_beside_11 (ct_X9_readNow  _  hp11) mwX9_readNow mvX9_readNow mlX9_165 cl9 o_0 rfl rfl ⟨nle, nle, nle, nle⟩ nle rfl ?_
  refine R_iload_n dX9_beside_14 rfl rfl ?_
  obtain ⟨p15, hp15, hf⟩ := bdE hf
  refine R_callV (As := [aI v1]) (st := []) dX9_beside_15 (ct_X5_openingOf _ _ _ o_54 hp15) mwX5_openingOf mvX5_openingOf mlX9_244 cl5 o_54 rfl rfl ⟨nle, nle, nle, nle⟩ nle rfl ?_
  refine R_istore_n dX9_beside_18 rfl (by decide) rfl rfl ?_
  refine R_iload_n dX9_beside_19 rfl rfl ?_
  refine R_if_eq dX9_beside_20 rfl (fun h20 => ?_) (fun h20 => ?_)
  · replace hf := iposE hf h20
    refine R_aload_n dX9_beside_34 rfl rfl ?_
    obtain ⟨p35, hp35, hf⟩ := bdE hf
    refine R_callV (As := []) (st := []) dX9_beside_35 (ct_X9_readNow  _  hp35) mwX9_readNow mvX9_readNow mlX9_165 cl9 o_0 rfl rfl ⟨nle, nle, nle, nle⟩ nle rfl ?_
    refine R_iload_n dX9_beside_38 rfl rfl ?_
    obtain ⟨p39, hp39, hf⟩ := bdE hf
    refine R_callV (As := [aI p15]) (st := []) dX9_beside_39 (ct_X5_pairAhead _ _ _ o_54 hp39) mwX5_pairAhead mvX5_pairAhead mlX9_253 cl5 o_54 rfl rfl ⟨nle, nle, nle, nle⟩ nle rfl ?_
    cases hf; exact R_widen nle nle (EX_iret dX9_beside_42 rfl rfl rfl rfl)
  · replace hf := inegE hf h20
    refine R_aload_n dX9_beside_23 rfl rfl ?_
    obtain ⟨p24, hp24, hf⟩ := bdE hf
    refine R_callV (As := []) (st := []) dX9_beside_24 (ct_X9_readNow  _  hp24) mwX9_readNow mvX9_readNow mlX9_165 cl9 o_0 rfl rfl ⟨nle, nle, nle, nle⟩ nle rfl ?_
    refine R_iload_n dX9_beside_27 rfl rfl ?_
    obtain ⟨p28, hp28, hf⟩ := bdE hf
    refine R_callV (As := [aI p15]) (st := []) dX9_beside_28 (ct_X5_pairBehind _ _ _ o_54 hp28) mwX5_pairBehind mvX5_pairBehind mlX9_250 cl5 o_54 rfl rfl ⟨nle, nle, nle, nle⟩ nle rfl ?_
    refine R_goto dX9_beside_31 rfl ?_
    cases hf; exact R_widen nle nle (EX_iret dX9_beside_42 rfl rfl rfl rfl)
/-! BracketHall.lone(I)I -/
def f_X9_lone (v1 : Int) (M : Mem) : Option (Int × Mem) :=
  (f_X9_readNow M).bind fun p1 =>
  (f_X5_loneAt 54 v1 p1).bind fun p5 =>
  some (p5, p1)
set_option maxRecDepth 20000 in
theorem ct_X9_lone {G : Gl} (v1 : Int) (M : Mem) {res : Int × Mem}  (hf : f_X9_lone v1 M = some res) : Ct G miX9_lone yX9_lone 4 [aR 0, aI v1] M (some (aI res.1)) res.2 := by
  refine Ct.of (L := [some (aR 0), some (aI v1)]) mwX9_lone rfl trivial nle ⟨rfl, rfl, trivial⟩ ?_
  unfold f_X9_lone at hf
  refine R_aload_n dX9_lone_0 rfl rfl ?_
  obtain ⟨p1, hp1, hf⟩ := bdE hf
  refine R_callV (As := []) (st := []) dX9_lone_1 (ct_X9_readNow  _  hp1) mwX9_readNow mvX9_readNow mlX9_165 cl9 o_0 rfl rfl ⟨nle, nle, nle, nle⟩ nle rfl ?_
  refine R_iload_n dX9_lone_4 rfl rfl ?_
  obtain ⟨p5, hp5, hf⟩ := bdE hf
  refine R_callV (As := [aI v1]) (st := []) dX9_lone_5 (ct_X5_loneAt _ _ _ o_54 hp5) mwX5_loneAt mvX5_loneAt mlX9_256 cl5 o_54 rfl rfl ⟨nle, nle, nle, nle⟩ nle rfl ?_
  cases hf; exact E_iret dX9_lone_8 rfl rfl rfl
/-! BracketHall.askKind(I)V -/
def f_X9_askKind (v1 : Int) (M : Mem) : Option (Nat × Int × Mem) :=
  (f_X7_hasKind 11 v1 M).bind fun p5 =>
  if p5 = 0 then
    some (1, 0, M)
  else
    some (0, 0, M)
set_option maxRecDepth 20000 in
theorem ct_X9_askKind {G : Gl} (v1 : Int) (M : Mem) {res : Nat × Int × Mem}  (hf : f_X9_askKind v1 M = some res) : CtX G miX9_askKind yX9_askKind 6 1 6 [aR 0, aI v1] M res.1 none res.2.2 := by
  refine CtX.of (L := [some (aR 0), some (aI v1)]) mwX9_askKind rfl trivial nle ⟨rfl, rfl, trivial⟩ ?_
  unfold f_X9_askKind at hf
  refine R_aload_n dX9_askKind_0 rfl rfl ?_
  refine R_getR dX9_askKind_1 cl9 flX9_42 o_0 ff9_4 (fr9_4 _) o_11.1 ?_
  refine R_iload_n dX9_askKind_4 rfl rfl ?_
  obtain ⟨p5, hp5, hf⟩ := bdE hf
  refine R_callV (As := [aI v1]) (st := []) dX9_askKind_5 (ct_X7_hasKind _ _ _ o_11 hp5) mwX7_hasKind mvX7_hasKind mlX9_413 cl7 o_11 rfl rfl ⟨nle, nle, nle, nle⟩ nle rfl ?_
  refine R_if_ne dX9_askKind_8 rfl (fun h8 => ?_) (fun h8 => ?_)
  · replace hf := inegE hf h8
    cases hf; exact R_widen nle nle (EX_vret dX9_askKind_22 rfl rfl rfl)
  · replace hf := iposE hf h8
    cases hf; exact R_throwW (j := 11) (x := 1) (cls := "java/lang/IndexOutOfBoundsException") dX9_askKind_11 dX9_askKind_14 dX9_askKind_15 dX9_askKind_18 dX9_askKind_21 wd991 xwX9_401 xi_1 rfl rfl (by decide +kernel) (by decide) (by decide) (by decide) ⟨nle, nle⟩ ⟨nle, nle⟩ rfl rfl rfl
/-! BracketHall.count(II)I -/
def f_X9_count (v1 : Int) (v2 : Int) (M : Mem) : Option (Nat × Int × Mem) :=
  (f_X9_askKind v1 M).bind fun p2 => if p2.1 = 0 then
  if v2 = 0 then
    (f_X9_readNow p2.2.2).bind fun p33 =>
    (f_X5_bracketsOf 54 (w32 (2 * v1)) 0 p33).bind fun p40 =>
    some (0, p40, p33)
  else if v2 = 1 then
    (f_X9_readNow p2.2.2).bind fun p45 =>
    (f_X5_bracketsOf 54 (w32 ((w32 (2 * v1)) + 1)) 0 p45).bind fun p54 =>
    some (0, p54, p45)
  else if v2 = 2 then
    (f_X9_readNow p2.2.2).bind fun p59 =>
    (f_X5_bracketsOf 54 (w32 (2 * v1)) 1 p59).bind fun p66 =>
    some (0, p66, p59)
  else
    some (2, 0, p2.2.2)
  else some (p2.1, 0, p2.2.2)
set_option maxRecDepth 20000 in
theorem ct_X9_count {G : Gl} (v1 : Int) (v2 : Int) (M : Mem) {res : Nat × Int × Mem}  (hf : f_X9_count v1 v2 M = some res) : CtX G miX9_count yX9_count 7 2 12 [aR 0, aI v1, aI v2] M res.1 (some (aI res.2.1)) res.2.2 := by
  refine CtX.of (L := [some (aR 0), some (aI v1), some (aI v2)]) mwX9_count rfl trivial nle ⟨rfl, rfl, rfl, trivial⟩ ?_
  unfold f_X9_count at hf
  refine R_aload_n dX9_count_0 rfl rfl ?_
  refine R_iload_n dX9_count_1 rfl rfl ?_
  obtain ⟨p2, hp2, hf⟩ := bdE hf
  refine R_callVX (As := [aI v1]) (st := []) dX9_count_2 (ct_X9_askKind _ _  hp2) mwX9_askKind mvX9_askKind wd1086 cl9 o_0 rfl rfl ⟨nle, nle, nle, nle⟩ nle rfl rfl nle nle (fun h2 => ?_) (fun h2 => ?_)
  · replace hf := inegE hf h2; cases hf; exact ⟨rfl, rfl⟩
  replace hf := iposE hf h2
  refine R_iload_n dX9_count_5 rfl rfl ?_
  by_cases h6_0 : v2 = 0
  · replace hf := iposE hf h6_0
    refine R_switchIn dX9_count_6 (by omega) (by omega) (by rw [h6_0]; rfl) rfl ?_
    refine R_aload_n dX9_count_32 rfl rfl ?_
    obtain ⟨p33, hp33, hf⟩ := bdE hf
    refine R_callV (As := []) (st := []) dX9_count_33 (ct_X9_readNow  _  hp33) mwX9_readNow mvX9_readNow mlX9_165 cl9 o_0 rfl rfl ⟨nle, nle, nle, nle⟩ nle rfl ?_
    refine R_iconst dX9_count_36 (v := 2) rfl ?_
    refine R_iload_n dX9_count_37 rfl rfl ?_
    refine R_imul dX9_count_38 rfl ?_
    refine R_iconst dX9_count_39 (v := 0) rfl ?_
    obtain ⟨p40, hp40, hf⟩ := bdE hf
    refine R_callV (As := [aI (w32 (2 * v1)), aI 0]) (st := []) dX9_count_40 (ct_X5_bracketsOf _ _ _ _ o_54 hp40) mwX5_bracketsOf mvX5_bracketsOf mlX9_262 cl5 o_54 rfl rfl ⟨nle, nle, nle, nle⟩ nle rfl ?_
    cases hf; exact R_widen nle nle (EX_iret dX9_count_43 rfl rfl rfl rfl)
  replace hf := inegE hf h6_0
  by_cases h6_1 : v2 = 1
  · replace hf := iposE hf h6_1
    refine R_switchIn dX9_count_6 (by omega) (by omega) (by rw [h6_1]; rfl) rfl ?_
    refine R_aload_n dX9_count_44 rfl rfl ?_
    obtain ⟨p45, hp45, hf⟩ := bdE hf
    refine R_callV (As := []) (st := []) dX9_count_45 (ct_X9_readNow  _  hp45) mwX9_readNow mvX9_readNow mlX9_165 cl9 o_0 rfl rfl ⟨nle, nle, nle, nle⟩ nle rfl ?_
    refine R_iconst dX9_count_48 (v := 2) rfl ?_
    refine R_iload_n dX9_count_49 rfl rfl ?_
    refine R_imul dX9_count_50 rfl ?_
    refine R_iconst dX9_count_51 (v := 1) rfl ?_
    refine R_iadd dX9_count_52 rfl ?_
    refine R_iconst dX9_count_53 (v := 0) rfl ?_
    obtain ⟨p54, hp54, hf⟩ := bdE hf
    refine R_callV (As := [aI (w32 ((w32 (2 * v1)) + 1)), aI 0]) (st := []) dX9_count_54 (ct_X5_bracketsOf _ _ _ _ o_54 hp54) mwX5_bracketsOf mvX5_bracketsOf mlX9_262 cl5 o_54 rfl rfl ⟨nle, nle, nle, nle⟩ nle rfl ?_
    cases hf; exact R_widen nle nle (EX_iret dX9_count_57 rfl rfl rfl rfl)
  replace hf := inegE hf h6_1
  by_cases h6_2 : v2 = 2
  · replace hf := iposE hf h6_2
    refine R_switchIn dX9_count_6 (by omega) (by omega) (by rw [h6_2]; rfl) rfl ?_
    refine R_aload_n dX9_count_58 rfl rfl ?_
    obtain ⟨p59, hp59, hf⟩ := bdE hf
    refine R_callV (As := []) (st := []) dX9_count_59 (ct_X9_readNow  _  hp59) mwX9_readNow mvX9_readNow mlX9_165 cl9 o_0 rfl rfl ⟨nle, nle, nle, nle⟩ nle rfl ?_
    refine R_iconst dX9_count_62 (v := 2) rfl ?_
    refine R_iload_n dX9_count_63 rfl rfl ?_
    refine R_imul dX9_count_64 rfl ?_
    refine R_iconst dX9_count_65 (v := 1) rfl ?_
    obtain ⟨p66, hp66, hf⟩ := bdE hf
    refine R_callV (As := [aI (w32 (2 * v1)), aI 1]) (st := []) dX9_count_66 (ct_X5_bracketsOf _ _ _ _ o_54 hp66) mwX5_bracketsOf mvX5_bracketsOf mlX9_262 cl5 o_54 rfl rfl ⟨nle, nle, nle, nle⟩ nle rfl ?_
    cases hf; exact R_widen nle nle (EX_iret dX9_count_69 rfl rfl rfl rfl)
  replace hf := inegE hf h6_2
  refine R_switchOut dX9_count_6 (by omega) rfl ?_
  cases hf; exact R_throwW (j := 12) (x := 2) (cls := "java/lang/IllegalArgumentException") dX9_count_70 dX9_count_73 dX9_count_74 dX9_count_77 dX9_count_80 wd714 xwX9_206 xi_2 rfl rfl (by decide +kernel) (by decide) (by decide) (by decide) ⟨nle, nle⟩ ⟨nle, nle⟩ rfl rfl rfl
/-! BracketHall.widest()I -/
def f_X9_widest  (M : Mem) : Option (Int × Mem) :=
  (f_X9_readNow M).bind fun p1 =>
  (f_X5_widestPair 54 p1).bind fun p4 =>
  some (p4, p1)
set_option maxRecDepth 20000 in
theorem ct_X9_widest {G : Gl}  (M : Mem) {res : Int × Mem}  (hf : f_X9_widest  M = some res) : Ct G miX9_widest yX9_widest 4 [aR 0] M (some (aI res.1)) res.2 := by
  refine Ct.of (L := [some (aR 0)]) mwX9_widest rfl trivial nle ⟨rfl, trivial⟩ ?_
  unfold f_X9_widest at hf
  refine R_aload_n dX9_widest_0 rfl rfl ?_
  obtain ⟨p1, hp1, hf⟩ := bdE hf
  refine R_callV (As := []) (st := []) dX9_widest_1 (ct_X9_readNow  _  hp1) mwX9_readNow mvX9_readNow mlX9_165 cl9 o_0 rfl rfl ⟨nle, nle, nle, nle⟩ nle rfl ?_
  obtain ⟨p4, hp4, hf⟩ := bdE hf
  refine R_callV (As := []) (st := []) dX9_widest_4 (ct_X5_widestPair _ _ o_54 hp4) mwX5_widestPair mvX5_widestPair mlX9_268 cl5 o_54 rfl rfl ⟨nle, nle, nle, nle⟩ nle rfl ?_
  cases hf; exact E_iret dX9_widest_7 rfl rfl rfl
/-! BracketHall.mendNow()LBracketHall$Mending; -/
def f_X9_mendNow  (M : Mem) : Option (Mem) :=
  if (M 0 17) = 0 then
    some M
  else
    (f_X2_setPrices 14 M).bind fun p15 =>
    (f_X9_readNow p15).bind fun p27 =>
    (f_X2_costOf 54 p27).bind fun p30 =>
    lt1 (up p30.2 66 12 p30.1) fun M33 =>
    (f_X2_chooseSteps M33).bind fun p40 =>
    lt1 (up p40 0 17 0) fun M45 =>
    some M45
set_option maxRecDepth 20000 in
theorem ct_X9_mendNow {G : Gl}  (M : Mem) {res : Mem}  (hf : f_X9_mendNow  M = some res) : Ct G miX9_mendNow yX9_mendNow 4 [aR 0] M (some (aR 66)) res := by
  refine Ct.of (L := [some (aR 0)]) mwX9_mendNow rfl trivial nle ⟨rfl, trivial⟩ ?_
  unfold f_X9_mendNow at hf
  refine R_aload_n dX9_mendNow_0 rfl rfl ?_
  refine R_getI (ki := 17) dX9_mendNow_1 cl9 flX9_103 o_0 ff9_17 rfl rfl ?_
  refine R_if_eq dX9_mendNow_4 rfl (fun h4 => ?_) (fun h4 => ?_)
  · replace hf := iposE hf h4
    refine R_aload_n dX9_mendNow_48 rfl rfl ?_
    refine R_getR dX9_mendNow_49 cl9 flX9_84 o_0 ff9_12 (fr9_12 _) o_66.1 ?_
    cases hf; exact E_aret dX9_mendNow_52 rfl rfl rfl
  · replace hf := inegE hf h4
    refine R_aload_n dX9_mendNow_7 rfl rfl ?_
    refine R_getR dX9_mendNow_8 cl9 flX9_84 o_0 ff9_12 (fr9_12 _) o_66.1 ?_
    refine R_aload_n dX9_mendNow_11 rfl rfl ?_
    refine R_getR dX9_mendNow_12 cl9 flX9_49 o_0 ff9_5 (fr9_5 _) o_14.1 ?_
    obtain ⟨p15, hp15, hf⟩ := bdE hf
    refine R_callV (As := [aR 14]) (st := []) dX9_mendNow_15 (ct_X2_setPrices _ _ o_14 hp15) mwX2_setPrices mvX2_setPrices mlX9_437 cl2 o_66 rfl rfl ⟨nle, nle, nle, nle⟩ nle rfl ?_
    refine R_aload_n dX9_mendNow_18 rfl rfl ?_
    refine R_getR dX9_mendNow_19 cl9 flX9_84 o_0 ff9_12 (fr9_12 _) o_66.1 ?_
    refine R_aload_n dX9_mendNow_22 rfl rfl ?_
    refine R_getR dX9_mendNow_23 cl9 flX9_84 o_0 ff9_12 (fr9_12 _) o_66.1 ?_
    refine R_aload_n dX9_mendNow_26 rfl rfl ?_
    obtain ⟨p27, hp27, hf⟩ := bdE hf
    refine R_callV (As := []) (st := [aR 66, aR 66]) dX9_mendNow_27 (ct_X9_readNow  _  hp27) mwX9_readNow mvX9_readNow mlX9_165 cl9 o_0 rfl rfl ⟨nle, nle, nle, nle⟩ nle rfl ?_
    obtain ⟨p30, hp30, hf⟩ := bdE hf
    refine R_callV (As := [aR 54]) (st := [aR 66]) dX9_mendNow_30 (ct_X2_costOf _ _ o_54 hp30) mwX2_costOf mvX2_costOf mlX9_439 cl2 o_66 rfl rfl ⟨nle, nle, nle, nle⟩ nle rfl ?_
    obtain ⟨M33, hM33, hf⟩ := ltE hf
    refine R_put (ki := 12) dX9_mendNow_33 cl2 flX9_278 o_66 (Or.inl fz2_12) rfl hM33 ?_
    refine R_aload_n dX9_mendNow_36 rfl rfl ?_
    refine R_getR dX9_mendNow_37 cl9 flX9_84 o_0 ff9_12 (fr9_12 _) o_66.1 ?_
    obtain ⟨p40, hp40, hf⟩ := bdE hf
    refine R_callV (As := []) (st := []) dX9_mendNow_40 (ct_X2_chooseSteps  _  hp40) mwX2_chooseSteps mvX2_chooseSteps mlX9_442 cl2 o_66 rfl rfl ⟨nle, nle, nle, nle⟩ nle rfl ?_
    refine R_aload_n dX9_mendNow_43 rfl rfl ?_
    refine R_iconst dX9_mendNow_44 (v := 0) rfl ?_
    obtain ⟨M45, hM45, hf⟩ := ltE hf
    refine R_put (ki := 17) dX9_mendNow_45 cl9 flX9_103 o_0 (Or.inr ⟨fz9_17, by decide⟩) rfl hM45 ?_
    refine R_aload_n dX9_mendNow_48 rfl rfl ?_
    refine R_getR dX9_mendNow_49 cl9 flX9_84 o_0 ff9_12 (fr9_12 _) o_66.1 ?_
    cases hf; exact E_aret dX9_mendNow_52 rfl rfl rfl
/-! BracketHall.repairCost()I -/
def f_X9_repairCost  (M : Mem) : Option (Int × Mem) :=
  (f_X9_mendNow M).bind fun p1 =>
  some (p1 66 12, p1)
set_option maxRecDepth 20000 in
theorem ct_X9_repairCost {G : Gl}  (M : Mem) {res : Int × Mem}  (hf : f_X9_repairCost  M = some res) : Ct G miX9_repairCost yX9_repairCost 5 [aR 0] M (some (aI res.1)) res.2 := by
  refine Ct.of (L := [some (aR 0)]) mwX9_repairCost rfl trivial nle ⟨rfl, trivial⟩ ?_
  unfold f_X9_repairCost at hf
  refine R_aload_n dX9_repairCost_0 rfl rfl ?_
  obtain ⟨p1, hp1, hf⟩ := bdE hf
  refine R_callV (As := []) (st := []) dX9_repairCost_1 (ct_X9_mendNow  _  hp1) mwX9_mendNow mvX9_mendNow mlX9_274 cl9 o_0 rfl rfl ⟨nle, nle, nle, nle⟩ nle rfl ?_
  refine R_getI (ki := 12) dX9_repairCost_4 cl2 flX9_278 o_66 ff2_12 rfl rfl ?_
  cases hf; exact E_iret dX9_repairCost_7 rfl rfl rfl
/-! BracketHall.repairSteps()I -/
def f_X9_repairSteps  (M : Mem) : Option (Int × Mem) :=
  (f_X9_mendNow M).bind fun p1 =>
  some (p1 66 11, p1)
set_option maxRecDepth 20000 in
theorem ct_X9_repairSteps {G : Gl}  (M : Mem) {res : Int × Mem}  (hf : f_X9_repairSteps  M = some res) : Ct G miX9_repairSteps yX9_repairSteps 5 [aR 0] M (some (aI res.1)) res.2 := by
  refine Ct.of (L := [some (aR 0)]) mwX9_repairSteps rfl trivial nle ⟨rfl, trivial⟩ ?_
  unfold f_X9_repairSteps at hf
  refine R_aload_n dX9_repairSteps_0 rfl rfl ?_
  obtain ⟨p1, hp1, hf⟩ := bdE hf
  refine R_callV (As := []) (st := []) dX9_repairSteps_1 (ct_X9_mendNow  _  hp1) mwX9_mendNow mvX9_mendNow mlX9_274 cl9 o_0 rfl rfl ⟨nle, nle, nle, nle⟩ nle rfl ?_
  refine R_getI (ki := 11) dX9_repairSteps_4 cl2 flX9_281 o_66 ff2_11 rfl rfl ?_
  cases hf; exact E_iret dX9_repairSteps_7 rfl rfl rfl
/-! BracketHall.repairStep(II)I -/
def f_X9_repairStep (v1 : Int) (v2 : Int) (M : Mem) : Option (Nat × Int × Mem) :=
  if v1 < 0 then
    some (3, 0, M)
  else
    (f_X9_mendNow M).bind fun p6 =>
    if v1 < (p6 66 11) then
      if v2 = 0 then
        (f_X9_mendNow p6).bind fun p53 =>
        (f_X2_actOf v1 p53).bind fun p57 =>
        some (0, p57, p53)
      else if v2 = 1 then
        (f_X9_mendNow p6).bind fun p62 =>
        (f_X2_placeOf v1 p62).bind fun p66 =>
        some (0, p66, p62)
      else if v2 = 2 then
        (f_X9_mendNow p6).bind fun p71 =>
        (f_X2_roleOf v1 p71).bind fun p75 =>
        some (0, idv p75 2, p71)
      else
        some (2, 0, p6)
    else
      some (3, 0, p6)
set_option maxRecDepth 20000 in
theorem ct_X9_repairStep {G : Gl} (v1 : Int) (v2 : Int) (M : Mem) {res : Nat × Int × Mem}  (hf : f_X9_repairStep v1 v2 M = some res) : CtX G miX9_repairStep yX9_repairStep 6 1 6 [aR 0, aI v1, aI v2] M res.1 (some (aI res.2.1)) res.2.2 := by
  refine CtX.of (L := [some (aR 0), some (aI v1), some (aI v2)]) mwX9_repairStep rfl trivial nle ⟨rfl, rfl, rfl, trivial⟩ ?_
  unfold f_X9_repairStep at hf
  refine R_iload_n dX9_repairStep_0 rfl rfl ?_
  refine R_if_lt dX9_repairStep_1 rfl (fun h1 => ?_) (fun h1 => ?_)
  · replace hf := iposE hf h1
    cases hf; exact R_throwN (j := 13) (dl := 3) (Or.inr ⟨rfl, rfl⟩) dX9_repairStep_15 dX9_repairStep_18 dX9_repairStep_19 dX9_repairStep_22 dX9_repairStep_25 wd1040 xwX9_288 xi_3 rfl rfl (by decide) (by decide) ⟨nle, nle⟩ ⟨nle, nle⟩ rfl rfl rfl
  · replace hf := inegE hf h1
    refine R_iload_n dX9_repairStep_4 rfl rfl ?_
    refine R_aload_n dX9_repairStep_5 rfl rfl ?_
    obtain ⟨p6, hp6, hf⟩ := bdE hf
    refine R_callV (As := []) (st := [aI v1]) dX9_repairStep_6 (ct_X9_mendNow  _  hp6) mwX9_mendNow mvX9_mendNow mlX9_274 cl9 o_0 rfl rfl ⟨nle, nle, nle, nle⟩ nle rfl ?_
    refine R_getI (ki := 11) dX9_repairStep_9 cl2 flX9_281 o_66 ff2_11 rfl rfl ?_
    refine R_icmp_lt dX9_repairStep_12 rfl (fun h12 => ?_) (fun h12 => ?_)
    · replace hf := iposE hf h12
      refine R_iload_n dX9_repairStep_26 rfl rfl ?_
      by_cases h27_0 : v2 = 0
      · replace hf := iposE hf h27_0
        refine R_switchIn dX9_repairStep_27 (by omega) (by omega) (by rw [h27_0]; rfl) rfl ?_
        refine R_aload_n dX9_repairStep_52 rfl rfl ?_
        obtain ⟨p53, hp53, hf⟩ := bdE hf
        refine R_callV (As := []) (st := []) dX9_repairStep_53 (ct_X9_mendNow  _  hp53) mwX9_mendNow mvX9_mendNow mlX9_274 cl9 o_0 rfl rfl ⟨nle, nle, nle, nle⟩ nle rfl ?_
        refine R_iload_n dX9_repairStep_56 rfl rfl ?_
        obtain ⟨p57, hp57, hf⟩ := bdE hf
        refine R_callV (As := [aI v1]) (st := []) dX9_repairStep_57 (ct_X2_actOf _ _  hp57) mwX2_actOf mvX2_actOf mlX9_289 cl2 o_66 rfl rfl ⟨nle, nle, nle, nle⟩ nle rfl ?_
        cases hf; exact R_widen nle nle (EX_iret dX9_repairStep_60 rfl rfl rfl rfl)
      replace hf := inegE hf h27_0
      by_cases h27_1 : v2 = 1
      · replace hf := iposE hf h27_1
        refine R_switchIn dX9_repairStep_27 (by omega) (by omega) (by rw [h27_1]; rfl) rfl ?_
        refine R_aload_n dX9_repairStep_61 rfl rfl ?_
        obtain ⟨p62, hp62, hf⟩ := bdE hf
        refine R_callV (As := []) (st := []) dX9_repairStep_62 (ct_X9_mendNow  _  hp62) mwX9_mendNow mvX9_mendNow mlX9_274 cl9 o_0 rfl rfl ⟨nle, nle, nle, nle⟩ nle rfl ?_
        refine R_iload_n dX9_repairStep_65 rfl rfl ?_
        obtain ⟨p66, hp66, hf⟩ := bdE hf
        refine R_callV (As := [aI v1]) (st := []) dX9_repairStep_66 (ct_X2_placeOf _ _  hp66) mwX2_placeOf mvX2_placeOf mlX9_292 cl2 o_66 rfl rfl ⟨nle, nle, nle, nle⟩ nle rfl ?_
        cases hf; exact R_widen nle nle (EX_iret dX9_repairStep_69 rfl rfl rfl rfl)
      replace hf := inegE hf h27_1
      by_cases h27_2 : v2 = 2
      · replace hf := iposE hf h27_2
        refine R_switchIn dX9_repairStep_27 (by omega) (by omega) (by rw [h27_2]; rfl) rfl ?_
        refine R_aload_n dX9_repairStep_70 rfl rfl ?_
        obtain ⟨p71, hp71, hf⟩ := bdE hf
        refine R_callV (As := []) (st := []) dX9_repairStep_71 (ct_X9_mendNow  _  hp71) mwX9_mendNow mvX9_mendNow mlX9_274 cl9 o_0 rfl rfl ⟨nle, nle, nle, nle⟩ nle rfl ?_
        refine R_iload_n dX9_repairStep_74 rfl rfl ?_
        obtain ⟨p75, hp75, hf⟩ := bdE hf
        refine R_callV (As := [aI v1]) (st := []) dX9_repairStep_75 (ct_X2_roleOf _ _  hp75) mwX2_roleOf mvX2_roleOf mlX9_295 cl2 o_66 rfl rfl ⟨nle, nle, nle, nle⟩ nle rfl ?_
        refine R_iconst dX9_repairStep_78 (v := 2) rfl ?_
        refine R_idiv dX9_repairStep_79 (by decide) rfl ?_
        cases hf; exact R_widen nle nle (EX_iret dX9_repairStep_80 rfl rfl rfl rfl)
      replace hf := inegE hf h27_2
      refine R_switchOut dX9_repairStep_27 (by omega) rfl ?_
      cases hf; exact R_throwW (j := 14) (x := 2) (cls := "java/lang/IllegalArgumentException") dX9_repairStep_81 dX9_repairStep_84 dX9_repairStep_85 dX9_repairStep_88 dX9_repairStep_91 wd714 xwX9_206 xi_2 rfl rfl (by decide +kernel) (by decide) (by decide) (by decide) ⟨nle, nle⟩ ⟨nle, nle⟩ rfl rfl rfl
    · replace hf := inegE hf h12
      cases hf; exact R_throwN (j := 13) (dl := 3) (Or.inr ⟨rfl, rfl⟩) dX9_repairStep_15 dX9_repairStep_18 dX9_repairStep_19 dX9_repairStep_22 dX9_repairStep_25 wd1040 xwX9_288 xi_3 rfl rfl (by decide) (by decide) ⟨nle, nle⟩ ⟨nle, nle⟩ rfl rfl rfl
/-! BracketHall.costSkipping(I)I -/
def f_X9_costSkipping (v1 : Int) (M : Mem) : Option (Int × Mem) :=
  (f_X9_mendNow M).bind fun p1 =>
  lt1 (p1 66 12) fun v2_7 =>
  (f_X5_read 60 14 11 v1 p1).bind fun p21 =>
  (f_X9_readNow p21).bind fun p29 =>
  (f_X5_hasBracketsOf 60 54 p29).bind fun p32 =>
  if p32 = 0 then
    (f_X2_costOf 60 p29).bind fun p50 =>
    some (p50.1, p50.2)
  else
    some (v2_7, p29)
set_option maxRecDepth 20000 in
theorem ct_X9_costSkipping {G : Gl} (v1 : Int) (M : Mem) {res : Int × Mem}  (hf : f_X9_costSkipping v1 M = some res) : Ct G miX9_costSkipping yX9_costSkipping 5 [aR 0, aI v1] M (some (aI res.1)) res.2 := by
  refine Ct.of (L := [some (aR 0), some (aI v1), none]) mwX9_costSkipping rfl trivial nle ⟨rfl, rfl, trivial⟩ ?_
  unfold f_X9_costSkipping at hf
  refine R_aload_n dX9_costSkipping_0 rfl rfl ?_
  obtain ⟨p1, hp1, hf⟩ := bdE hf
  refine R_callV (As := []) (st := []) dX9_costSkipping_1 (ct_X9_mendNow  _  hp1) mwX9_mendNow mvX9_mendNow mlX9_274 cl9 o_0 rfl rfl ⟨nle, nle, nle, nle⟩ nle rfl ?_
  refine R_getI (ki := 12) dX9_costSkipping_4 cl2 flX9_278 o_66 ff2_12 rfl rfl ?_
  obtain ⟨v2_7, hv2_7, hf⟩ := ltE hf
  refine R_istore_n dX9_costSkipping_7 rfl (by decide) hv2_7 rfl ?_
  refine R_aload_n dX9_costSkipping_8 rfl rfl ?_
  refine R_getR dX9_costSkipping_9 cl9 flX9_78 o_0 ff9_11 (fr9_11 _) o_60.1 ?_
  refine R_aload_n dX9_costSkipping_12 rfl rfl ?_
  refine R_getR dX9_costSkipping_13 cl9 flX9_49 o_0 ff9_5 (fr9_5 _) o_14.1 ?_
  refine R_aload_n dX9_costSkipping_16 rfl rfl ?_
  refine R_getR dX9_costSkipping_17 cl9 flX9_42 o_0 ff9_4 (fr9_4 _) o_11.1 ?_
  refine R_iload_n dX9_costSkipping_20 rfl rfl ?_
  obtain ⟨p21, hp21, hf⟩ := bdE hf
  refine R_callV (As := [aR 14, aR 11, aI v1]) (st := []) dX9_costSkipping_21 (ct_X5_read _ _ _ _ _ o_60 o_14 o_11 hp21) mwX5_read mvX5_read mlX9_427 cl5 o_60 rfl rfl ⟨nle, nle, nle, nle⟩ nle rfl ?_
  refine R_aload_n dX9_costSkipping_24 rfl rfl ?_
  refine R_getR dX9_costSkipping_25 cl9 flX9_78 o_0 ff9_11 (fr9_11 _) o_60.1 ?_
  refine R_aload_n dX9_costSkipping_28 rfl rfl ?_
  obtain ⟨p29, hp29, hf⟩ := bdE hf
  refine R_callV (As := []) (st := [aR 60]) dX9_costSkipping_29 (ct_X9_readNow  _  hp29) mwX9_readNow mvX9_readNow mlX9_165 cl9 o_0 rfl rfl ⟨nle, nle, nle, nle⟩ nle rfl ?_
  obtain ⟨p32, hp32, hf⟩ := bdE hf
  refine R_callV (As := [aR 54]) (st := []) dX9_costSkipping_32 (ct_X5_hasBracketsOf _ _ _ o_60 o_54 hp32) mwX5_hasBracketsOf mvX5_hasBracketsOf mlX9_445 cl5 o_60 rfl rfl ⟨nle, nle, nle, nle⟩ nle rfl ?_
  refine R_if_eq dX9_costSkipping_35 rfl (fun h35 => ?_) (fun h35 => ?_)
  · replace hf := iposE hf h35
    refine R_aload_n dX9_costSkipping_42 rfl rfl ?_
    refine R_getR dX9_costSkipping_43 cl9 flX9_84 o_0 ff9_12 (fr9_12 _) o_66.1 ?_
    refine R_aload_n dX9_costSkipping_46 rfl rfl ?_
    refine R_getR dX9_costSkipping_47 cl9 flX9_78 o_0 ff9_11 (fr9_11 _) o_60.1 ?_
    obtain ⟨p50, hp50, hf⟩ := bdE hf
    refine R_callV (As := [aR 60]) (st := []) dX9_costSkipping_50 (ct_X2_costOf _ _ o_60 hp50) mwX2_costOf mvX2_costOf mlX9_439 cl2 o_66 rfl rfl ⟨nle, nle, nle, nle⟩ nle rfl ?_
    cases hf; exact E_iret dX9_costSkipping_53 rfl rfl rfl
  · replace hf := inegE hf h35
    refine R_iload_n dX9_costSkipping_38 rfl rfl ?_
    refine R_goto dX9_costSkipping_39 rfl ?_
    cases hf; exact E_iret dX9_costSkipping_53 rfl rfl rfl
/-! BracketHall.costWithout(I)I -/
def f_X9_costWithout (v1 : Int) (M : Mem) : Option (Nat × Int × Mem) :=
  (f_X9_askByte v1 M).bind fun p2 => if p2.1 = 0 then
  (f_X9_costSkipping v1 p2.2.2).bind fun p7 =>
  some (0, p7.1, p7.2)
  else some (p2.1, 0, p2.2.2)
set_option maxRecDepth 20000 in
theorem ct_X9_costWithout {G : Gl} (v1 : Int) (M : Mem) {res : Nat × Int × Mem}  (hf : f_X9_costWithout v1 M = some res) : CtX G miX9_costWithout yX9_costWithout 7 1 6 [aR 0, aI v1] M res.1 (some (aI res.2.1)) res.2.2 := by
  refine CtX.of (L := [some (aR 0), some (aI v1)]) mwX9_costWithout rfl trivial nle ⟨rfl, rfl, trivial⟩ ?_
  unfold f_X9_costWithout at hf
  refine R_aload_n dX9_costWithout_0 rfl rfl ?_
  refine R_iload_n dX9_costWithout_1 rfl rfl ?_
  obtain ⟨p2, hp2, hf⟩ := bdE hf
  refine R_callVX (As := [aI v1]) (st := []) dX9_costWithout_2 (ct_X9_askByte _ _  hp2) mwX9_askByte mvX9_askByte wd986 cl9 o_0 rfl rfl ⟨nle, nle, nle, nle⟩ nle rfl rfl nle nle (fun h2 => ?_) (fun h2 => ?_)
  · replace hf := inegE hf h2; cases hf; exact ⟨rfl, rfl⟩
  replace hf := iposE hf h2
  refine R_aload_n dX9_costWithout_5 rfl rfl ?_
  refine R_iload_n dX9_costWithout_6 rfl rfl ?_
  obtain ⟨p7, hp7, hf⟩ := bdE hf
  refine R_callV (As := [aI v1]) (st := []) dX9_costWithout_7 (ct_X9_costSkipping _ _  hp7) mwX9_costSkipping mvX9_costSkipping mlX9_300 cl9 o_0 rfl rfl ⟨nle, nle, nle, nle⟩ nle rfl ?_
  cases hf; exact R_widen nle nle (EX_iret dX9_costWithout_10 rfl rfl rfl rfl)
/-! BracketHall.culprit()I -/
def f_X9_culprit_K83 (v1 : Int) (v2 : Int) (M : Mem) : Option (Int × Mem) :=
  (f_X2_costIn v2 M).bind fun p84 =>
  if v1 ≤ p84 then
    some ((-1), M)
  else
    (f_X2_placeIn v2 M).bind fun p92 =>
    some (p92, M)
def f_X9_culprit_L28 : Nat → Int → Int → Int → Mem → Option (Int × Mem)
  | 0, _, _, _, _ => none
  | n + 1, v1, v2, v3, M =>
    if (M 14 2) ≤ v3 then
      f_X9_culprit_K83 v1 v2 M
    else
      (f_X9_readNow M).bind fun p40 =>
      (f_X5_hiddenAs 54 v3 p40).bind fun p44 =>
      if p44 = 0 then
        (f_X4_byteAt 14 v3 p40).bind fun p55 =>
        if p55 = 10 then
          (f_X9_costSkipping v3 p40).bind fun p66 =>
          (f_X2_placed p66.1 v3 p66.2).bind fun p70 =>
          lt1 (if p70 < v2 then p70 else v2) fun x73 =>
          lt1 (w32 (v3 + 1)) fun v3_77 =>
          f_X9_culprit_L28 n v1 x73 v3_77 p66.2
        else
          lt1 (w32 (v3 + 1)) fun v3_77 =>
          f_X9_culprit_L28 n v1 v2 v3_77 p40
      else
        (f_X9_costSkipping v3 p40).bind fun p66 =>
        (f_X2_placed p66.1 v3 p66.2).bind fun p70 =>
        lt1 (if p70 < v2 then p70 else v2) fun x73 =>
        lt1 (w32 (v3 + 1)) fun v3_77 =>
        f_X9_culprit_L28 n v1 x73 v3_77 p66.2
def f_X9_culprit  (M : Mem) : Option (Int × Mem) :=
  (f_X9_mendNow M).bind fun p1 =>
  lt1 (p1 66 12) fun v1_7 =>
  if v1_7 = 0 then
    some ((-1), p1)
  else
    (f_X9_readNow p1).bind fun p19 =>
    (f_X2_leastSpared 54 p19).bind fun p22 =>
    lt1 (p22.1) fun v2_25 =>
    f_X9_culprit_L28 4096 v1_7 v2_25 0 p22.2
set_option maxRecDepth 20000 in
theorem rn_X9_culprit_K83 {G : Gl} (v1 : Int) (v2 : Int) (M : Mem) (res : Int × Mem)  (hf : f_X9_culprit_K83 v1 v2 M = some res) : Run G false (rmD 6 0 0) miX9_culprit (ZP G (some (aI res.1)) res.2) 0 0 83 [none, some (aI v1), some (aI v2), none] [] M := by
  unfold f_X9_culprit_K83 at hf
  refine R_iload_n dX9_culprit_83 rfl rfl ?_
  obtain ⟨p84, hp84, hf⟩ := bdE hf
  refine R_callS (As := [aI v2]) (st := []) dX9_culprit_84 (ct_X2_costIn _ _  hp84) mwX2_costIn msX2_costIn mlX9_315 rfl ⟨nle, nle, nle, nle⟩ nle rfl ?_
  refine R_iload_n dX9_culprit_87 rfl rfl ?_
  refine R_icmp_ge dX9_culprit_88 rfl (fun h88 => ?_) (fun h88 => ?_)
  · replace hf := iposE hf h88
    refine R_iconst dX9_culprit_98 (v := (-1)) rfl ?_
    cases hf; exact E_iret dX9_culprit_99 rfl rfl rfl
  · replace hf := inegE hf h88
    refine R_iload_n dX9_culprit_91 rfl rfl ?_
    obtain ⟨p92, hp92, hf⟩ := bdE hf
    refine R_callS (As := [aI v2]) (st := []) dX9_culprit_92 (ct_X2_placeIn _ _  hp92) mwX2_placeIn msX2_placeIn mlX9_318 rfl ⟨nle, nle, nle, nle⟩ nle rfl ?_
    refine R_goto dX9_culprit_95 rfl ?_
    cases hf; exact E_iret dX9_culprit_99 rfl rfl rfl
set_option maxRecDepth 20000 in
theorem rn_X9_culprit_L28 {G : Gl} : ∀ (n : Nat) (v1 : Int) (v2 : Int) (v3 : Int) (M : Mem) (res : Int × Mem),  f_X9_culprit_L28 n v1 v2 v3 M = some res → Run G false (rmD 6 0 0) miX9_culprit (ZP G (some (aI res.1)) res.2) 0 0 28 [some (aR 0), some (aI v1), some (aI v2), some (aI v3)] [] M := by
  intro n
  induction n with
  | zero => intro v1 v2 v3 M res  hf; cases hf
  | succ n ih =>
    intro v1 v2 v3 M res  hf
    rw [f_X9_culprit_L28] at hf
    refine R_iload_n dX9_culprit_28 rfl rfl ?_
    refine R_aload_n dX9_culprit_29 rfl rfl ?_
    refine R_getR dX9_culprit_30 cl9 flX9_49 o_0 ff9_5 (fr9_5 _) o_14.1 ?_
    refine R_getI (ki := 2) dX9_culprit_33 cl4 flX9_172 o_14 ff4_2 rfl rfl ?_
    refine R_icmp_ge dX9_culprit_36 rfl (fun h36 => ?_) (fun h36 => ?_)
    · replace hf := iposE hf h36
      exact R_subk (rn_X9_culprit_K83 _ _ _ _  hf) ⟨rfl, rfl, trivial⟩
    · replace hf := inegE hf h36
      refine R_aload_n dX9_culprit_39 rfl rfl ?_
      obtain ⟨p40, hp40, hf⟩ := bdE hf
      refine R_callV (As := []) (st := []) dX9_culprit_40 (ct_X9_readNow  _  hp40) mwX9_readNow mvX9_readNow mlX9_165 cl9 o_0 rfl rfl ⟨nle, nle, nle, nle⟩ nle rfl ?_
      refine R_iload_n dX9_culprit_43 rfl rfl ?_
      obtain ⟨p44, hp44, hf⟩ := bdE hf
      refine R_callV (As := [aI v3]) (st := []) dX9_culprit_44 (ct_X5_hiddenAs _ _ _ o_54 hp44) mwX5_hiddenAs mvX5_hiddenAs mlX9_230 cl5 o_54 rfl rfl ⟨nle, nle, nle, nle⟩ nle rfl ?_
      refine R_if_ne dX9_culprit_47 rfl (fun h47 => ?_) (fun h47 => ?_)
      · replace hf := inegE hf h47
        refine R_iload_n dX9_culprit_63 rfl rfl ?_
        refine R_aload_n dX9_culprit_64 rfl rfl ?_
        refine R_iload_n dX9_culprit_65 rfl rfl ?_
        obtain ⟨p66, hp66, hf⟩ := bdE hf
        refine R_callV (As := [aI v3]) (st := [aI v2]) dX9_culprit_66 (ct_X9_costSkipping _ _  hp66) mwX9_costSkipping mvX9_costSkipping mlX9_300 cl9 o_0 rfl rfl ⟨nle, nle, nle, nle⟩ nle rfl ?_
        refine R_iload_n dX9_culprit_69 rfl rfl ?_
        obtain ⟨p70, hp70, hf⟩ := bdE hf
        refine R_callS (As := [aI p66.1, aI v3]) (st := [aI v2]) dX9_culprit_70 (ct_X2_placed _ _ _  hp70) mwX2_placed msX2_placed mlX9_307 rfl ⟨nle, nle, nle, nle⟩ nle rfl ?_
        obtain ⟨x73, hx73, hf⟩ := ltE hf
        refine R_min dX9_culprit_73 jlX9_310 jw_min ⟨nle, nle, nle, nle⟩ nle hx73 ?_
        refine R_istore_n dX9_culprit_76 rfl (by decide) rfl rfl ?_
        obtain ⟨v3_77, hv3_77, hf⟩ := ltE hf
        refine R_iinc dX9_culprit_77 rfl rfl hv3_77 (by decide) rfl ?_
        refine R_goto dX9_culprit_80 rfl ?_
        exact R_subk (ih _ _ _ _ _  hf) ⟨rfl, rfl, rfl, rfl, trivial⟩
      · replace hf := iposE hf h47
        refine R_aload_n dX9_culprit_50 rfl rfl ?_
        refine R_getR dX9_culprit_51 cl9 flX9_49 o_0 ff9_5 (fr9_5 _) o_14.1 ?_
        refine R_iload_n dX9_culprit_54 rfl rfl ?_
        obtain ⟨p55, hp55, hf⟩ := bdE hf
        refine R_callV (As := [aI v3]) (st := []) dX9_culprit_55 (ct_X4_byteAt _ _ _ o_14 hp55) mwX4_byteAt mvX4_byteAt mlX9_212 cl4 o_14 rfl rfl ⟨nle, nle, nle, nle⟩ nle rfl ?_
        refine R_bipush dX9_culprit_58 (v := 10) rfl ?_
        refine R_icmp_ne dX9_culprit_60 rfl (fun h60 => ?_) (fun h60 => ?_)
        · replace hf := inegE hf h60
          obtain ⟨v3_77, hv3_77, hf⟩ := ltE hf
          refine R_iinc dX9_culprit_77 rfl rfl hv3_77 (by decide) rfl ?_
          refine R_goto dX9_culprit_80 rfl ?_
          exact R_subk (ih _ _ _ _ _  hf) ⟨rfl, rfl, rfl, rfl, trivial⟩
        · replace hf := iposE hf h60
          refine R_iload_n dX9_culprit_63 rfl rfl ?_
          refine R_aload_n dX9_culprit_64 rfl rfl ?_
          refine R_iload_n dX9_culprit_65 rfl rfl ?_
          obtain ⟨p66, hp66, hf⟩ := bdE hf
          refine R_callV (As := [aI v3]) (st := [aI v2]) dX9_culprit_66 (ct_X9_costSkipping _ _  hp66) mwX9_costSkipping mvX9_costSkipping mlX9_300 cl9 o_0 rfl rfl ⟨nle, nle, nle, nle⟩ nle rfl ?_
          refine R_iload_n dX9_culprit_69 rfl rfl ?_
          obtain ⟨p70, hp70, hf⟩ := bdE hf
          refine R_callS (As := [aI p66.1, aI v3]) (st := [aI v2]) dX9_culprit_70 (ct_X2_placed _ _ _  hp70) mwX2_placed msX2_placed mlX9_307 rfl ⟨nle, nle, nle, nle⟩ nle rfl ?_
          obtain ⟨x73, hx73, hf⟩ := ltE hf
          refine R_min dX9_culprit_73 jlX9_310 jw_min ⟨nle, nle, nle, nle⟩ nle hx73 ?_
          refine R_istore_n dX9_culprit_76 rfl (by decide) rfl rfl ?_
          obtain ⟨v3_77, hv3_77, hf⟩ := ltE hf
          refine R_iinc dX9_culprit_77 rfl rfl hv3_77 (by decide) rfl ?_
          refine R_goto dX9_culprit_80 rfl ?_
          exact R_subk (ih _ _ _ _ _  hf) ⟨rfl, rfl, rfl, rfl, trivial⟩
set_option maxRecDepth 20000 in
theorem ct_X9_culprit {G : Gl}  (M : Mem) {res : Int × Mem}  (hf : f_X9_culprit  M = some res) : Ct G miX9_culprit yX9_culprit 6 [aR 0] M (some (aI res.1)) res.2 := by
  refine Ct.of (L := [some (aR 0), none, none, none]) mwX9_culprit rfl trivial nle ⟨rfl, trivial⟩ ?_
  unfold f_X9_culprit at hf
  refine R_aload_n dX9_culprit_0 rfl rfl ?_
  obtain ⟨p1, hp1, hf⟩ := bdE hf
  refine R_callV (As := []) (st := []) dX9_culprit_1 (ct_X9_mendNow  _  hp1) mwX9_mendNow mvX9_mendNow mlX9_274 cl9 o_0 rfl rfl ⟨nle, nle, nle, nle⟩ nle rfl ?_
  refine R_getI (ki := 12) dX9_culprit_4 cl2 flX9_278 o_66 ff2_12 rfl rfl ?_
  obtain ⟨v1_7, hv1_7, hf⟩ := ltE hf
  refine R_istore_n dX9_culprit_7 rfl (by decide) hv1_7 rfl ?_
  refine R_iload_n dX9_culprit_8 rfl rfl ?_
  refine R_if_ne dX9_culprit_9 rfl (fun h9 => ?_) (fun h9 => ?_)
  · replace hf := inegE hf h9
    refine R_aload_n dX9_culprit_14 rfl rfl ?_
    refine R_getR dX9_culprit_15 cl9 flX9_84 o_0 ff9_12 (fr9_12 _) o_66.1 ?_
    refine R_aload_n dX9_culprit_18 rfl rfl ?_
    obtain ⟨p19, hp19, hf⟩ := bdE hf
    refine R_callV (As := []) (st := [aR 66]) dX9_culprit_19 (ct_X9_readNow  _  hp19) mwX9_readNow mvX9_readNow mlX9_165 cl9 o_0 rfl rfl ⟨nle, nle, nle, nle⟩ nle rfl ?_
    obtain ⟨p22, hp22, hf⟩ := bdE hf
    refine R_callV (As := [aR 54]) (st := []) dX9_culprit_22 (ct_X2_leastSpared _ _ o_54 hp22) mwX2_leastSpared mvX2_leastSpared mlX9_303 cl2 o_66 rfl rfl ⟨nle, nle, nle, nle⟩ nle rfl ?_
    obtain ⟨v2_25, hv2_25, hf⟩ := ltE hf
    refine R_istore_n dX9_culprit_25 rfl (by decide) hv2_25 rfl ?_
    refine R_iconst dX9_culprit_26 (v := 0) rfl ?_
    refine R_istore_n dX9_culprit_27 rfl (by decide) rfl rfl ?_
    exact R_subk (rn_X9_culprit_L28 4096 _ _ _ _ _  hf) ⟨rfl, rfl, rfl, rfl, trivial⟩
  · replace hf := iposE hf h9
    refine R_iconst dX9_culprit_12 (v := (-1)) rfl ?_
    cases hf; exact E_iret dX9_culprit_13 rfl rfl rfl
