/-! ===== the constructors ===== -/
theorem C_norm {G : Gl} {n9 n1 c1 s1 : Nat} {N9 : NM} {fl : Bool} {R : Room} {mi : MI} {Z : ZT} {cells slots pc : Nat} {L : List (Option AV)} {st : List AV} {M : Mem} (h1 : n9 = n1) (h2 : cells = c1) (h3 : slots = s1) (k : RunC G n1 N9 fl R mi Z c1 s1 pc L st M) : RunC G n9 N9 fl R mi Z cells slots pc L st M := by
  subst h1; subst h2; subst h3; exact k
theorem C_ldcI {G : Gl} {n9 : Nat} {N9 : NM} {fl : Bool} {R : Room} {mi : MI} {Z : ZT} {cells slots pc : Nat} {L : List (Option AV)} {st : List AV} {M : Mem} {index : Nat} {v : Int} {x : Int32} (hd : decode mi.2.1 pc = .ok (.ldc index, 2)) (hw : Cond.constant mi.1 index x ∈ lw_tbl) (hv : x.toInt = v) (k : RunC G n9 N9 fl R mi Z cells slots (pc + 2) L (aI v :: st) M) : RunC G n9 N9 fl R mi Z cells slots pc L st M := by
  intro p l e s0 s m args below meth c H locs ls vs C D hl hs hW hS
  obtain ⟨hx, hb, hml, hr, hlk, hown, hst, hxt, hE⟩ := id C
  refine lv_ldc hx hb hown (hE.1.use hw rfl) hd ?_
  exact k p l e s0 s m args below meth c H locs ls _ C D hl ⟨hv, hs⟩ hW hS
set_option maxRecDepth 100000 in
theorem clc0 : CLC 0 RX0 := ⟨by decide, TX0, tyX0, rfl, by decide +kernel, tyX0_ok, nmX0, by decide +kernel, by decide +kernel, by decide +kernel⟩
set_option maxRecDepth 100000 in
theorem clc1 : CLC 1 RX1 := ⟨by decide, TX1, tyX1, rfl, by decide +kernel, tyX1_ok, nmX1, by decide +kernel, by decide +kernel, by decide +kernel⟩
set_option maxRecDepth 100000 in
theorem clc2 : CLC 2 RX2 := ⟨by decide, TX2, tyX2, rfl, by decide +kernel, tyX2_ok, nmX2, by decide +kernel, by decide +kernel, by decide +kernel⟩
set_option maxRecDepth 100000 in
theorem clc3 : CLC 3 RX3 := ⟨by decide, TX3, tyX3, rfl, by decide +kernel, tyX3_ok, nmX3, by decide +kernel, by decide +kernel, by decide +kernel⟩
set_option maxRecDepth 100000 in
theorem clc4 : CLC 4 RX4 := ⟨by decide, TX4, tyX4, rfl, by decide +kernel, tyX4_ok, nmX4, by decide +kernel, by decide +kernel, by decide +kernel⟩
set_option maxRecDepth 100000 in
theorem clc5 : CLC 5 RX5 := ⟨by decide, TX5, tyX5, rfl, by decide +kernel, tyX5_ok, nmX5, by decide +kernel, by decide +kernel, by decide +kernel⟩
set_option maxRecDepth 100000 in
theorem clc6 : CLC 6 RX6 := ⟨by decide, TX6, tyX6, rfl, by decide +kernel, tyX6_ok, nmX6, by decide +kernel, by decide +kernel, by decide +kernel⟩
set_option maxRecDepth 100000 in
theorem clc7 : CLC 7 RX7 := ⟨by decide, TX7, tyX7, rfl, by decide +kernel, tyX7_ok, nmX7, by decide +kernel, by decide +kernel, by decide +kernel⟩
set_option maxRecDepth 100000 in
theorem clc8 : CLC 8 RX8 := ⟨by decide, TX8, tyX8, rfl, by decide +kernel, tyX8_ok, nmX8, by decide +kernel, by decide +kernel, by decide +kernel⟩
set_option maxRecDepth 100000 in
theorem clc9 : CLC 9 RX9 := ⟨by decide, TX9, tyX9, rfl, by decide +kernel, tyX9_ok, nmX9, by decide +kernel, by decide +kernel, by decide +kernel⟩
set_option maxRecDepth 100000 in
theorem clc10 : CLC 10 RX10 := ⟨by decide, TX10, tyX10, rfl, by decide +kernel, tyX10_ok, nmX10, by decide +kernel, by decide +kernel, by decide +kernel⟩
theorem flcX9_12 : FLC RX9 12 9 0 := ⟨by decide, RX9, TX9, nf 9, rfl, wd323, rfl⟩
theorem flcX9_21 : FLC RX9 21 9 1 := ⟨by decide, RX9, TX9, nf 9, rfl, wd324, rfl⟩
theorem flcX9_28 : FLC RX9 28 9 2 := ⟨by decide, RX9, TX9, nf 9, rfl, wd325, rfl⟩
theorem flcX9_35 : FLC RX9 35 9 3 := ⟨by decide, RX9, TX9, nf 9, rfl, wd326, rfl⟩
theorem flcX9_42 : FLC RX9 42 9 4 := ⟨by decide, RX9, TX9, nf 9, rfl, wd327, rfl⟩
theorem flcX9_49 : FLC RX9 49 9 5 := ⟨by decide, RX9, TX9, nf 9, rfl, wd328, rfl⟩
theorem flcX9_53 : FLC RX9 53 9 6 := ⟨by decide, RX9, TX9, nf 9, rfl, wd329, rfl⟩
theorem flcX9_59 : FLC RX9 59 9 7 := ⟨by decide, RX9, TX9, nf 9, rfl, wd330, rfl⟩
theorem flcX9_63 : FLC RX9 63 9 8 := ⟨by decide, RX9, TX9, nf 9, rfl, wd331, rfl⟩
theorem flcX9_67 : FLC RX9 67 9 9 := ⟨by decide, RX9, TX9, nf 9, rfl, wd332, rfl⟩
theorem flcX9_74 : FLC RX9 74 9 10 := ⟨by decide, RX9, TX9, nf 9, rfl, wd333, rfl⟩
theorem flcX9_78 : FLC RX9 78 9 11 := ⟨by decide, RX9, TX9, nf 9, rfl, wd334, rfl⟩
theorem flcX9_84 : FLC RX9 84 9 12 := ⟨by decide, RX9, TX9, nf 9, rfl, wd335, rfl⟩
theorem flcX9_88 : FLC RX9 88 9 13 := ⟨by decide, RX9, TX9, nf 9, rfl, wd336, rfl⟩
theorem flcX0_11 : FLC RX0 11 0 0 := ⟨by decide, RX0, TX0, nf 0, rfl, wd194, rfl⟩
theorem flcX1_9 : FLC RX1 9 1 0 := ⟨by decide, RX1, TX1, nf 1, rfl, wd39, rfl⟩
theorem flcX2_9 : FLC RX2 9 2 0 := ⟨by decide, RX2, TX2, nf 2, rfl, wd260, rfl⟩
theorem flcX2_15 : FLC RX2 15 2 1 := ⟨by decide, RX2, TX2, nf 2, rfl, wd261, rfl⟩
theorem flcX2_18 : FLC RX2 18 2 2 := ⟨by decide, RX2, TX2, nf 2, rfl, wd262, rfl⟩
theorem flcX2_22 : FLC RX2 22 2 3 := ⟨by decide, RX2, TX2, nf 2, rfl, wd263, rfl⟩
theorem flcX2_25 : FLC RX2 25 2 4 := ⟨by decide, RX2, TX2, nf 2, rfl, wd264, rfl⟩
theorem flcX2_28 : FLC RX2 28 2 5 := ⟨by decide, RX2, TX2, nf 2, rfl, wd265, rfl⟩
theorem flcX2_31 : FLC RX2 31 2 6 := ⟨by decide, RX2, TX2, nf 2, rfl, wd266, rfl⟩
theorem flcX2_34 : FLC RX2 34 2 7 := ⟨by decide, RX2, TX2, nf 2, rfl, wd267, rfl⟩
theorem flcX2_37 : FLC RX2 37 2 8 := ⟨by decide, RX2, TX2, nf 2, rfl, wd268, rfl⟩
theorem flcX2_40 : FLC RX2 40 2 9 := ⟨by decide, RX2, TX2, nf 2, rfl, wd269, rfl⟩
theorem flcX3_11 : FLC RX3 11 3 0 := ⟨by decide, RX3, TX3, nf 3, rfl, wd131, rfl⟩
theorem flcX3_15 : FLC RX3 15 3 1 := ⟨by decide, RX3, TX3, nf 3, rfl, wd132, rfl⟩
theorem flcX4_9 : FLC RX4 9 4 0 := ⟨by decide, RX4, TX4, nf 4, rfl, wd150, rfl⟩
theorem flcX4_15 : FLC RX4 15 4 1 := ⟨by decide, RX4, TX4, nf 4, rfl, wd151, rfl⟩
theorem flcX5_9 : FLC RX5 9 5 0 := ⟨by decide, RX5, TX5, nf 5, rfl, wd211, rfl⟩
theorem flcX5_15 : FLC RX5 15 5 1 := ⟨by decide, RX5, TX5, nf 5, rfl, wd212, rfl⟩
theorem flcX5_18 : FLC RX5 18 5 2 := ⟨by decide, RX5, TX5, nf 5, rfl, wd213, rfl⟩
theorem flcX5_21 : FLC RX5 21 5 3 := ⟨by decide, RX5, TX5, nf 5, rfl, wd214, rfl⟩
theorem flcX5_24 : FLC RX5 24 5 4 := ⟨by decide, RX5, TX5, nf 5, rfl, wd215, rfl⟩
theorem flcX6_12 : FLC RX6 12 6 0 := ⟨by decide, RX6, TX6, nf 6, rfl, wd98, rfl⟩
theorem flcX7_9 : FLC RX7 9 7 0 := ⟨by decide, RX7, TX7, nf 7, rfl, wd87, rfl⟩
theorem flcX7_15 : FLC RX7 15 7 1 := ⟨by decide, RX7, TX7, nf 7, rfl, wd88, rfl⟩
theorem flcX8_24 : FLC RX8 24 8 0 := ⟨by decide, RX8, TX8, nf 8, rfl, wd54, rfl⟩
theorem flcX10_7 : FLC RX10 7 10 2 := ⟨by decide, RX10, TX10, nf 10, rfl, wd1327, rfl⟩
theorem flcX10_13 : FLC RX10 13 10 3 := ⟨by decide, RX10, TX10, nf 10, rfl, wd1328, rfl⟩
theorem flcX10_26 : FLC RX10 26 10 8 := ⟨by decide, RX10, TX10, nf 10, rfl, wd1333, rfl⟩
theorem flcX10_29 : FLC RX10 29 10 9 := ⟨by decide, RX10, TX10, nf 10, rfl, wd1334, rfl⟩
theorem flcX10_32 : FLC RX10 32 10 13 := ⟨by decide, RX10, TX10, nf 10, rfl, wd1338, rfl⟩
theorem flcX10_35 : FLC RX10 35 10 14 := ⟨by decide, RX10, TX10, nf 10, rfl, wd1339, rfl⟩
theorem flcX10_38 : FLC RX10 38 10 15 := ⟨by decide, RX10, TX10, nf 10, rfl, wd1340, rfl⟩
theorem flcX10_45 : FLC RX10 45 10 25 := ⟨by decide, RX10, TX10, nf 10, rfl, wd1350, rfl⟩
theorem flcX10_48 : FLC RX10 48 10 27 := ⟨by decide, RX10, TX10, nf 10, rfl, wd1352, rfl⟩
theorem flcX10_51 : FLC RX10 51 10 28 := ⟨by decide, RX10, TX10, nf 10, rfl, wd1353, rfl⟩
theorem flcX10_54 : FLC RX10 54 10 29 := ⟨by decide, RX10, TX10, nf 10, rfl, wd1354, rfl⟩
theorem flcX10_58 : FLC RX10 58 10 30 := ⟨by decide, RX10, TX10, nf 10, rfl, wd1355, rfl⟩
theorem flcX10_61 : FLC RX10 61 10 31 := ⟨by decide, RX10, TX10, nf 10, rfl, wd1356, rfl⟩
theorem flcX10_65 : FLC RX10 65 10 32 := ⟨by decide, RX10, TX10, nf 10, rfl, wd1357, rfl⟩
theorem flcX10_68 : FLC RX10 68 10 33 := ⟨by decide, RX10, TX10, nf 10, rfl, wd1358, rfl⟩
theorem flcX10_71 : FLC RX10 71 10 34 := ⟨by decide, RX10, TX10, nf 10, rfl, wd1359, rfl⟩
theorem flcX10_74 : FLC RX10 74 10 35 := ⟨by decide, RX10, TX10, nf 10, rfl, wd1360, rfl⟩
theorem flcX10_77 : FLC RX10 77 10 36 := ⟨by decide, RX10, TX10, nf 10, rfl, wd1361, rfl⟩
theorem flcX10_80 : FLC RX10 80 10 37 := ⟨by decide, RX10, TX10, nf 10, rfl, wd1362, rfl⟩
theorem flcX10_83 : FLC RX10 83 10 38 := ⟨by decide, RX10, TX10, nf 10, rfl, wd1363, rfl⟩
theorem flcX10_86 : FLC RX10 86 10 41 := ⟨by decide, RX10, TX10, nf 10, rfl, wd1366, rfl⟩
theorem flcX10_89 : FLC RX10 89 10 42 := ⟨by decide, RX10, TX10, nf 10, rfl, wd1367, rfl⟩
theorem flcX10_92 : FLC RX10 92 10 43 := ⟨by decide, RX10, TX10, nf 10, rfl, wd1368, rfl⟩
theorem flcX10_95 : FLC RX10 95 10 44 := ⟨by decide, RX10, TX10, nf 10, rfl, wd1369, rfl⟩
theorem flcX10_98 : FLC RX10 98 10 45 := ⟨by decide, RX10, TX10, nf 10, rfl, wd1370, rfl⟩
theorem flcX10_101 : FLC RX10 101 10 47 := ⟨by decide, RX10, TX10, nf 10, rfl, wd1372, rfl⟩
theorem flcX10_104 : FLC RX10 104 10 48 := ⟨by decide, RX10, TX10, nf 10, rfl, wd1373, rfl⟩
theorem flcX10_107 : FLC RX10 107 10 49 := ⟨by decide, RX10, TX10, nf 10, rfl, wd1374, rfl⟩
def f_X4_init (o0 : Nat) (M : Mem) : Option Mem :=
  lt1 (up M o0 2 0) fun M23 =>
  lt1 (up M23 o0 3 0) fun M28 =>
  lt1 (up M28 o0 4 3) fun M33 =>
  lt1 (up M33 o0 5 2) fun M38 =>
  lt1 (up M38 o0 6 3) fun M43 =>
  lt1 (up M43 o0 7 4) fun M48 =>
  some M48
def iN_X4_init (N9 : NM) (o0 : Nat) : NM := (clr (clr N9 o0 0) o0 1)
set_option maxRecDepth 20000 in
theorem cc_X4_init {G : Gl} {N9 : NM} (o0 : Nat) (M : Mem) {res : Mem} (ho0 : isO 4 o0) (hf : f_X4_init o0 M = some res) : CtC G miX4_init yX4_init 1 2 248 [aR o0] (o0 + 1) N9 M none (o0 + 3) (iN_X4_init N9 o0) res := by
  refine CtC.of (fl := true) (L := [some (aR o0)]) mwX4_init rfl trivial nle ⟨rfl, trivial⟩ (fun _ => rfl) ?_
  unfold f_X4_init at hf
  unfold iN_X4_init
  refine C_aload_n dX4_init_0 rfl rfl ?_
  refine C_objInit dX4_init_1 wd149 wd31 wd32 rfl ⟨nle, nle⟩ ?_
  refine C_aload_n dX4_init_4 rfl rfl ?_
  refine C_sipush dX4_init_5 (v := 240) rfl ?_
  refine C_newa (t := 0) (len := 240) dX4_init_8 (by decide) rfl wd47 (k4_1 ho0).2 rfl (k4_1 ho0).1 nle ⟨nle, nle⟩ ?_
  refine C_norm (n1 := (o0 + 2)) (c1 := 1) (s1 := 240) rfl rfl rfl ?_
  refine C_putR (k := 0) dX4_init_10 clc4 flcX4_9 ho0 ff4_0 (fr4_0 _) (k4_1 ho0).1 rfl (by omega) ?_
  refine C_aload_n dX4_init_13 rfl rfl ?_
  refine C_bipush dX4_init_14 (v := 8) rfl ?_
  refine C_newa (t := 0) (len := 8) dX4_init_16 (by decide) rfl wd47 (k4_2 ho0).2 rfl (k4_2 ho0).1 nle ⟨nle, nle⟩ ?_
  refine C_norm (n1 := (o0 + 3)) (c1 := 2) (s1 := 248) rfl rfl rfl ?_
  refine C_putR (k := 1) dX4_init_18 clc4 flcX4_15 ho0 ff4_1 (fr4_1 _) (k4_2 ho0).1 rfl (by omega) ?_
  refine C_aload_n dX4_init_21 rfl rfl ?_
  refine C_iconst dX4_init_22 (v := 0) rfl ?_
  obtain ⟨M23, hM23, hf⟩ := ltE hf
  refine C_put (ki := 2) dX4_init_23 cl4 flX4_18 ho0 (Or.inl fz4_2) rfl hM23 ?_
  refine C_aload_n dX4_init_26 rfl rfl ?_
  refine C_iconst dX4_init_27 (v := 0) rfl ?_
  obtain ⟨M28, hM28, hf⟩ := ltE hf
  refine C_put (ki := 3) dX4_init_28 cl4 flX4_22 ho0 (Or.inl fz4_3) rfl hM28 ?_
  refine C_aload_n dX4_init_31 rfl rfl ?_
  refine C_iconst dX4_init_32 (v := 3) rfl ?_
  obtain ⟨M33, hM33, hf⟩ := ltE hf
  refine C_put (ki := 4) dX4_init_33 cl4 flX4_25 ho0 (Or.inl fz4_4) rfl hM33 ?_
  refine C_aload_n dX4_init_36 rfl rfl ?_
  refine C_iconst dX4_init_37 (v := 2) rfl ?_
  obtain ⟨M38, hM38, hf⟩ := ltE hf
  refine C_put (ki := 5) dX4_init_38 cl4 flX4_28 ho0 (Or.inl fz4_5) rfl hM38 ?_
  refine C_aload_n dX4_init_41 rfl rfl ?_
  refine C_iconst dX4_init_42 (v := 3) rfl ?_
  obtain ⟨M43, hM43, hf⟩ := ltE hf
  refine C_put (ki := 6) dX4_init_43 cl4 flX4_31 ho0 (Or.inl fz4_6) rfl hM43 ?_
  refine C_aload_n dX4_init_46 rfl rfl ?_
  refine C_iconst dX4_init_47 (v := 4) rfl ?_
  obtain ⟨M48, hM48, hf⟩ := ltE hf
  refine C_put (ki := 7) dX4_init_48 cl4 flX4_34 ho0 (Or.inl fz4_7) rfl hM48 ?_
  cases hf; exact EC_vret dX4_init_51 rfl rfl rfl
def f_X5_init (o0 : Nat) (M : Mem) : Option Mem :=
  lt1 (up M o0 5 0) fun M51 =>
  lt1 (up M51 o0 6 0) fun M56 =>
  lt1 (up M56 o0 7 0) fun M61 =>
  lt1 (up M61 o0 8 0) fun M66 =>
  lt1 (up M66 o0 9 (-1)) fun M71 =>
  lt1 (up M71 o0 10 0) fun M76 =>
  lt1 (up M76 o0 11 0) fun M81 =>
  some M81
def iN_X5_init (N9 : NM) (o0 : Nat) : NM := (clr (clr (clr (clr (clr N9 o0 0) o0 1) o0 2) o0 3) o0 4)
set_option maxRecDepth 20000 in
theorem cc_X5_init {G : Gl} {N9 : NM} (o0 : Nat) (M : Mem) {res : Mem} (ho0 : isO 5 o0) (hf : f_X5_init o0 M = some res) : CtC G miX5_init yX5_init 1 5 1200 [aR o0] (o0 + 1) N9 M none (o0 + 6) (iN_X5_init N9 o0) res := by
  refine CtC.of (fl := true) (L := [some (aR o0)]) mwX5_init rfl trivial nle ⟨rfl, trivial⟩ (fun _ => rfl) ?_
  unfold f_X5_init at hf
  unfold iN_X5_init
  refine C_aload_n dX5_init_0 rfl rfl ?_
  refine C_objInit dX5_init_1 wd210 wd31 wd32 rfl ⟨nle, nle⟩ ?_
  refine C_aload_n dX5_init_4 rfl rfl ?_
  refine C_sipush dX5_init_5 (v := 240) rfl ?_
  refine C_newa (t := 0) (len := 240) dX5_init_8 (by decide) rfl wd47 (k5_1 ho0).2 rfl (k5_1 ho0).1 nle ⟨nle, nle⟩ ?_
  refine C_norm (n1 := (o0 + 2)) (c1 := 1) (s1 := 240) rfl rfl rfl ?_
  refine C_putR (k := 0) dX5_init_10 clc5 flcX5_9 ho0 ff5_0 (fr5_0 _) (k5_1 ho0).1 rfl (by omega) ?_
  refine C_aload_n dX5_init_13 rfl rfl ?_
  refine C_sipush dX5_init_14 (v := 240) rfl ?_
  refine C_newa (t := 0) (len := 240) dX5_init_17 (by decide) rfl wd47 (k5_2 ho0).2 rfl (k5_2 ho0).1 nle ⟨nle, nle⟩ ?_
  refine C_norm (n1 := (o0 + 3)) (c1 := 2) (s1 := 480) rfl rfl rfl ?_
  refine C_putR (k := 1) dX5_init_19 clc5 flcX5_15 ho0 ff5_1 (fr5_1 _) (k5_2 ho0).1 rfl (by omega) ?_
  refine C_aload_n dX5_init_22 rfl rfl ?_
  refine C_sipush dX5_init_23 (v := 240) rfl ?_
  refine C_newa (t := 0) (len := 240) dX5_init_26 (by decide) rfl wd47 (k5_3 ho0).2 rfl (k5_3 ho0).1 nle ⟨nle, nle⟩ ?_
  refine C_norm (n1 := (o0 + 4)) (c1 := 3) (s1 := 720) rfl rfl rfl ?_
  refine C_putR (k := 2) dX5_init_28 clc5 flcX5_18 ho0 ff5_2 (fr5_2 _) (k5_3 ho0).1 rfl (by omega) ?_
  refine C_aload_n dX5_init_31 rfl rfl ?_
  refine C_sipush dX5_init_32 (v := 240) rfl ?_
  refine C_newa (t := 0) (len := 240) dX5_init_35 (by decide) rfl wd47 (k5_4 ho0).2 rfl (k5_4 ho0).1 nle ⟨nle, nle⟩ ?_
  refine C_norm (n1 := (o0 + 5)) (c1 := 4) (s1 := 960) rfl rfl rfl ?_
  refine C_putR (k := 3) dX5_init_37 clc5 flcX5_21 ho0 ff5_3 (fr5_3 _) (k5_4 ho0).1 rfl (by omega) ?_
  refine C_aload_n dX5_init_40 rfl rfl ?_
  refine C_sipush dX5_init_41 (v := 240) rfl ?_
  refine C_newa (t := 0) (len := 240) dX5_init_44 (by decide) rfl wd47 (k5_5 ho0).2 rfl (k5_5 ho0).1 nle ⟨nle, nle⟩ ?_
  refine C_norm (n1 := (o0 + 6)) (c1 := 5) (s1 := 1200) rfl rfl rfl ?_
  refine C_putR (k := 4) dX5_init_46 clc5 flcX5_24 ho0 ff5_4 (fr5_4 _) (k5_5 ho0).1 rfl (by omega) ?_
  refine C_aload_n dX5_init_49 rfl rfl ?_
  refine C_iconst dX5_init_50 (v := 0) rfl ?_
  obtain ⟨M51, hM51, hf⟩ := ltE hf
  refine C_put (ki := 5) dX5_init_51 cl5 flX5_27 ho0 (Or.inl fz5_5) rfl hM51 ?_
  refine C_aload_n dX5_init_54 rfl rfl ?_
  refine C_iconst dX5_init_55 (v := 0) rfl ?_
  obtain ⟨M56, hM56, hf⟩ := ltE hf
  refine C_put (ki := 6) dX5_init_56 cl5 flX5_31 ho0 (Or.inl fz5_6) rfl hM56 ?_
  refine C_aload_n dX5_init_59 rfl rfl ?_
  refine C_iconst dX5_init_60 (v := 0) rfl ?_
  obtain ⟨M61, hM61, hf⟩ := ltE hf
  refine C_put (ki := 7) dX5_init_61 cl5 flX5_34 ho0 (Or.inl fz5_7) rfl hM61 ?_
  refine C_aload_n dX5_init_64 rfl rfl ?_
  refine C_iconst dX5_init_65 (v := 0) rfl ?_
  obtain ⟨M66, hM66, hf⟩ := ltE hf
  refine C_put (ki := 8) dX5_init_66 cl5 flX5_37 ho0 (Or.inl fz5_8) rfl hM66 ?_
  refine C_aload_n dX5_init_69 rfl rfl ?_
  refine C_iconst dX5_init_70 (v := (-1)) rfl ?_
  obtain ⟨M71, hM71, hf⟩ := ltE hf
  refine C_put (ki := 9) dX5_init_71 cl5 flX5_40 ho0 (Or.inl fz5_9) rfl hM71 ?_
  refine C_aload_n dX5_init_74 rfl rfl ?_
  refine C_iconst dX5_init_75 (v := 0) rfl ?_
  obtain ⟨M76, hM76, hf⟩ := ltE hf
  refine C_put (ki := 10) dX5_init_76 cl5 flX5_43 ho0 (Or.inl fz5_10) rfl hM76 ?_
  refine C_aload_n dX5_init_79 rfl rfl ?_
  refine C_iconst dX5_init_80 (v := 0) rfl ?_
  obtain ⟨M81, hM81, hf⟩ := ltE hf
  refine C_put (ki := 11) dX5_init_81 cl5 flX5_46 ho0 (Or.inr ⟨fz5_11, by decide⟩) rfl hM81 ?_
  cases hf; exact EC_vret dX5_init_84 rfl rfl rfl
def f_X7_init (o0 : Nat) (M : Mem) : Option Mem :=
  lt1 (up M o0 2 0) fun M22 =>
  (f_X7_clear o0 M22).bind fun p26 =>
  some p26
def iN_X7_init (N9 : NM) (o0 : Nat) : NM := (clr (clr N9 o0 0) o0 1)
set_option maxRecDepth 20000 in
theorem cc_X7_init {G : Gl} {N9 : NM} (o0 : Nat) (M : Mem) {res : Mem} (ho0 : isO 7 o0) (hf : f_X7_init o0 M = some res) : CtC G miX7_init yX7_init 1 2 135 [aR o0] (o0 + 1) N9 M none (o0 + 3) (iN_X7_init N9 o0) res := by
  refine CtC.of (fl := true) (L := [some (aR o0)]) mwX7_init rfl trivial nle ⟨rfl, trivial⟩ (fun _ => rfl) ?_
  unfold f_X7_init at hf
  unfold iN_X7_init
  refine C_aload_n dX7_init_0 rfl rfl ?_
  refine C_objInit dX7_init_1 wd82 wd31 wd32 rfl ⟨nle, nle⟩ ?_
  refine C_aload_n dX7_init_4 rfl rfl ?_
  refine C_bipush dX7_init_5 (v := 127) rfl ?_
  refine C_newa (t := 0) (len := 127) dX7_init_7 (by decide) rfl wd47 (k7_1 ho0).2 rfl (k7_1 ho0).1 nle ⟨nle, nle⟩ ?_
  refine C_norm (n1 := (o0 + 2)) (c1 := 1) (s1 := 127) rfl rfl rfl ?_
  refine C_putR (k := 0) dX7_init_9 clc7 flcX7_9 ho0 ff7_0 (fr7_0 _) (k7_1 ho0).1 rfl (by omega) ?_
  refine C_aload_n dX7_init_12 rfl rfl ?_
  refine C_bipush dX7_init_13 (v := 8) rfl ?_
  refine C_newa (t := 0) (len := 8) dX7_init_15 (by decide) rfl wd47 (k7_2 ho0).2 rfl (k7_2 ho0).1 nle ⟨nle, nle⟩ ?_
  refine C_norm (n1 := (o0 + 3)) (c1 := 2) (s1 := 135) rfl rfl rfl ?_
  refine C_putR (k := 1) dX7_init_17 clc7 flcX7_15 ho0 ff7_1 (fr7_1 _) (k7_2 ho0).1 rfl (by omega) ?_
  refine C_aload_n dX7_init_20 rfl rfl ?_
  refine C_iconst dX7_init_21 (v := 0) rfl ?_
  obtain ⟨M22, hM22, hf⟩ := ltE hf
  refine C_put (ki := 2) dX7_init_22 cl7 flX7_18 ho0 (Or.inl fz7_2) rfl hM22 ?_
  refine C_aload_n dX7_init_25 rfl rfl ?_
  obtain ⟨p26, hp26, hf⟩ := bdE hf
  refine C_callV (As := []) (st := []) dX7_init_26 (cc_X7_clear _ _ ho0 (by omega) (by unfold clr; simp) (by unfold clr; simp) hp26) mwX7_clear mvX7_clear mlX7_22 cl7 ho0 rfl rfl ⟨nle, nle, nle, nle⟩ nle rfl ?_ (by omega) rfl
  refine C_norm (n1 := (o0 + 3)) (c1 := 2) (s1 := 135) rfl rfl rfl ?_
  cases hf; exact EC_vret dX7_init_29 rfl rfl rfl
def f_X1_init (M : Mem) : Option Mem :=
  lt1 (up M 1 1 0) fun M15 =>
  some M15
def iN_X1_init (N9 : NM) : NM := (clr N9 1 0)
set_option maxRecDepth 20000 in
theorem cc_X1_init {G : Gl} {N9 : NM} (M : Mem) {res : Mem} (hf : f_X1_init M = some res) : CtC G miX1_init yX1_init 1 1 600 [aR 1] 2 N9 M none 3 (iN_X1_init N9) res := by
  refine CtC.of (fl := true) (L := [some (aR 1)]) mwX1_init rfl trivial nle ⟨rfl, trivial⟩ (fun _ => rfl) ?_
  unfold f_X1_init at hf
  unfold iN_X1_init
  refine C_aload_n dX1_init_0 rfl rfl ?_
  refine C_objInit dX1_init_1 wd38 wd31 wd32 rfl ⟨nle, nle⟩ ?_
  refine C_aload_n dX1_init_4 rfl rfl ?_
  refine C_sipush dX1_init_5 (v := 600) rfl ?_
  refine C_newa (t := 0) (len := 600) dX1_init_8 (by decide) rfl wd47 (a_2).2 rfl (a_2).1 nle ⟨nle, nle⟩ ?_
  refine C_norm (n1 := 3) (c1 := 1) (s1 := 600) rfl rfl rfl ?_
  refine C_putR (k := 0) dX1_init_10 clc1 flcX1_9 o_1 ff1_0 (fr1_0 _) a_2.1 rfl (by omega) ?_
  refine C_aload_n dX1_init_13 rfl rfl ?_
  refine C_iconst dX1_init_14 (v := 0) rfl ?_
  obtain ⟨M15, hM15, hf⟩ := ltE hf
  refine C_put (ki := 1) dX1_init_15 cl1 flX1_15 o_1 (Or.inl fz1_1) rfl hM15 ?_
  cases hf; exact EC_vret dX1_init_18 rfl rfl rfl
def f_X8_init (M : Mem) : Option Mem :=
  lt1 (up M 3 1 0) fun M6 =>
  lt1 (up M6 3 2 0) fun M11 =>
  lt1 (up M11 3 3 0) fun M16 =>
  lt1 (up M16 3 4 0) fun M21 =>
  some M21
def iN_X8_init (N9 : NM) : NM := (clr N9 3 0)
set_option maxRecDepth 20000 in
theorem cc_X8_init {G : Gl} {N9 : NM} (M : Mem) {res : Mem} (hf : f_X8_init M = some res) : CtC G miX8_init yX8_init 1 0 0 [aR 3, aR 1] 4 N9 M none 4 (iN_X8_init N9) res := by
  refine CtC.of (fl := true) (L := [some (aR 3), some (aR 1)]) mwX8_init rfl trivial nle ⟨rfl, rfl, trivial⟩ (fun _ => rfl) ?_
  unfold f_X8_init at hf
  unfold iN_X8_init
  refine C_aload_n dX8_init_0 rfl rfl ?_
  refine C_objInit dX8_init_1 wd53 wd31 wd32 rfl ⟨nle, nle⟩ ?_
  refine C_aload_n dX8_init_4 rfl rfl ?_
  refine C_iconst dX8_init_5 (v := 0) rfl ?_
  obtain ⟨M6, hM6, hf⟩ := ltE hf
  refine C_put (ki := 1) dX8_init_6 cl8 flX8_9 o_3 (Or.inl fz8_1) rfl hM6 ?_
  refine C_aload_n dX8_init_9 rfl rfl ?_
  refine C_iconst dX8_init_10 (v := 0) rfl ?_
  obtain ⟨M11, hM11, hf⟩ := ltE hf
  refine C_put (ki := 2) dX8_init_11 cl8 flX8_15 o_3 (Or.inl fz8_2) rfl hM11 ?_
  refine C_aload_n dX8_init_14 rfl rfl ?_
  refine C_iconst dX8_init_15 (v := 0) rfl ?_
  obtain ⟨M16, hM16, hf⟩ := ltE hf
  refine C_put (ki := 3) dX8_init_16 cl8 flX8_18 o_3 (Or.inl fz8_3) rfl hM16 ?_
  refine C_aload_n dX8_init_19 rfl rfl ?_
  refine C_iconst dX8_init_20 (v := 0) rfl ?_
  obtain ⟨M21, hM21, hf⟩ := ltE hf
  refine C_put (ki := 4) dX8_init_21 cl8 flX8_21 o_3 (Or.inl fz8_4) rfl hM21 ?_
  refine C_aload_n dX8_init_24 rfl rfl ?_
  refine C_aload_n dX8_init_25 rfl rfl ?_
  refine C_putR (k := 0) dX8_init_26 clc8 flcX8_24 o_3 ff8_0 (fr8_0 _) o_1.1 rfl (by omega) ?_
  cases hf; exact EC_vret dX8_init_29 rfl rfl rfl
def f_X6_init (M : Mem) : Option Mem :=
  (f_X7_init 5 M).bind fun p0_9 =>
  lt1 (up p0_9 4 1 0) fun M17 =>
  lt1 (up M17 4 2 0) fun M22 =>
  lt1 (up M22 4 3 0) fun M27 =>
  lt1 (up M27 4 4 0) fun M32 =>
  lt1 (up M32 4 5 0) fun M37 =>
  lt1 (up M37 4 6 0) fun M42 =>
  some M42
def iN_X6_init (N9 : NM) : NM := (clr (iN_X7_init N9 5) 4 0)
set_option maxRecDepth 20000 in
theorem cc_X6_init {G : Gl} {N9 : NM} (M : Mem) {res : Mem} (hf : f_X6_init M = some res) : CtC G miX6_init yX6_init 2 3 138 [aR 4] 5 N9 M none 8 (iN_X6_init N9) res := by
  refine CtC.of (fl := true) (L := [some (aR 4)]) mwX6_init rfl trivial nle ⟨rfl, trivial⟩ (fun _ => rfl) ?_
  unfold f_X6_init at hf
  unfold iN_X6_init
  refine C_aload_n dX6_init_0 rfl rfl ?_
  refine C_objInit dX6_init_1 wd76 wd31 wd32 rfl ⟨nle, nle⟩ ?_
  refine C_aload_n dX6_init_4 rfl rfl ?_
  refine C_new dX6_init_5 clc7 wd77 wd78 wd5 rfl (by decide) ⟨nle, nle⟩ ?_
  refine C_norm (n1 := 6) (c1 := 1) (s1 := 3) rfl rfl rfl ?_
  refine C_dupR dX6_init_8 ?_
  obtain ⟨p0_9, hp0_9, hf⟩ := bdE hf
  refine C_callI (n' := 8) (N' := iN_X7_init N9 5) (As := []) (st := [aR 5, aR 4]) dX6_init_9 (cc_X7_init _ _ o_5 hp0_9) mwX7_init rfl rfl wd80 mlX6_11 rfl rfl ⟨nle, nle, nle, nle⟩ nle rfl ?_
  refine C_norm (n1 := 8) (c1 := 3) (s1 := 138) rfl rfl rfl ?_
  refine C_putR (k := 0) dX6_init_12 clc6 flcX6_12 o_4 ff6_0 (fr6_0 _) o_5.1 rfl (by omega) ?_
  refine C_aload_n dX6_init_15 rfl rfl ?_
  refine C_iconst dX6_init_16 (v := 0) rfl ?_
  obtain ⟨M17, hM17, hf⟩ := ltE hf
  refine C_put (ki := 1) dX6_init_17 cl6 flX6_18 o_4 (Or.inl fz6_1) rfl hM17 ?_
  refine C_aload_n dX6_init_20 rfl rfl ?_
  refine C_iconst dX6_init_21 (v := 0) rfl ?_
  obtain ⟨M22, hM22, hf⟩ := ltE hf
  refine C_put (ki := 2) dX6_init_22 cl6 flX6_22 o_4 (Or.inl fz6_2) rfl hM22 ?_
  refine C_aload_n dX6_init_25 rfl rfl ?_
  refine C_iconst dX6_init_26 (v := 0) rfl ?_
  obtain ⟨M27, hM27, hf⟩ := ltE hf
  refine C_put (ki := 3) dX6_init_27 cl6 flX6_25 o_4 (Or.inl fz6_3) rfl hM27 ?_
  refine C_aload_n dX6_init_30 rfl rfl ?_
  refine C_iconst dX6_init_31 (v := 0) rfl ?_
  obtain ⟨M32, hM32, hf⟩ := ltE hf
  refine C_put (ki := 4) dX6_init_32 cl6 flX6_28 o_4 (Or.inl fz6_4) rfl hM32 ?_
  refine C_aload_n dX6_init_35 rfl rfl ?_
  refine C_iconst dX6_init_36 (v := 0) rfl ?_
  obtain ⟨M37, hM37, hf⟩ := ltE hf
  refine C_put (ki := 5) dX6_init_37 cl6 flX6_31 o_4 (Or.inr ⟨fz6_5, by decide⟩) rfl hM37 ?_
  refine C_aload_n dX6_init_40 rfl rfl ?_
  refine C_iconst dX6_init_41 (v := 0) rfl ?_
  obtain ⟨M42, hM42, hf⟩ := ltE hf
  refine C_put (ki := 6) dX6_init_42 cl6 flX6_35 o_4 (Or.inr ⟨fz6_6, by decide⟩) rfl hM42 ?_
  cases hf; exact EC_vret dX6_init_45 rfl rfl rfl
def f_X3_init (M : Mem) : Option Mem :=
  lt1 (up M 8 2 0) fun M23 =>
  some M23
def iN_X3_init (N9 : NM) : NM := (clr (clr N9 8 0) 8 1)
set_option maxRecDepth 20000 in
theorem cc_X3_init {G : Gl} {N9 : NM} (M : Mem) {res : Mem} (hf : f_X3_init M = some res) : CtC G miX3_init yX3_init 1 2 400 [aR 8] 9 N9 M none 11 (iN_X3_init N9) res := by
  refine CtC.of (fl := true) (L := [some (aR 8)]) mwX3_init rfl trivial nle ⟨rfl, trivial⟩ (fun _ => rfl) ?_
  unfold f_X3_init at hf
  unfold iN_X3_init
  refine C_aload_n dX3_init_0 rfl rfl ?_
  refine C_objInit dX3_init_1 wd130 wd31 wd32 rfl ⟨nle, nle⟩ ?_
  refine C_aload_n dX3_init_4 rfl rfl ?_
  refine C_bipush dX3_init_5 (v := 100) rfl ?_
  refine C_newa (t := 0) (len := 100) dX3_init_7 (by decide) rfl wd47 (a_9).2 rfl (a_9).1 nle ⟨nle, nle⟩ ?_
  refine C_norm (n1 := 10) (c1 := 1) (s1 := 100) rfl rfl rfl ?_
  refine C_putR (k := 0) dX3_init_9 clc3 flcX3_11 o_8 ff3_0 (fr3_0 _) a_9.1 rfl (by omega) ?_
  refine C_aload_n dX3_init_12 rfl rfl ?_
  refine C_sipush dX3_init_13 (v := 300) rfl ?_
  refine C_newa (t := 0) (len := 300) dX3_init_16 (by decide) rfl wd47 (a_10).2 rfl (a_10).1 nle ⟨nle, nle⟩ ?_
  refine C_norm (n1 := 11) (c1 := 2) (s1 := 400) rfl rfl rfl ?_
  refine C_putR (k := 1) dX3_init_18 clc3 flcX3_15 o_8 ff3_1 (fr3_1 _) a_10.1 rfl (by omega) ?_
  refine C_aload_n dX3_init_21 rfl rfl ?_
  refine C_iconst dX3_init_22 (v := 0) rfl ?_
  obtain ⟨M23, hM23, hf⟩ := ltE hf
  refine C_put (ki := 2) dX3_init_23 cl3 flX3_18 o_8 (Or.inl fz3_2) rfl hM23 ?_
  cases hf; exact EC_vret dX3_init_26 rfl rfl rfl
def f_X0_init (M : Mem) : Option Mem :=
  lt1 (up M 20 1 0) fun M15 =>
  lt1 (up M15 20 2 0) fun M20 =>
  (f_X4_init 22 M20).bind fun p2_40 =>
  (f_X4_init 25 p2_40).bind fun p3_40 =>
  (f_X4_init 28 p3_40).bind fun p4_40 =>
  (f_X4_init 31 p4_40).bind fun p5_40 =>
  (f_X4_init 34 p5_40).bind fun p6_40 =>
  (f_X4_init 37 p6_40).bind fun p7_40 =>
  (f_X4_init 40 p7_40).bind fun p8_40 =>
  (f_X4_init 43 p8_40).bind fun p9_40 =>
  (f_X4_init 46 p9_40).bind fun p10_40 =>
  (f_X4_init 49 p10_40).bind fun p11_40 =>
  some p11_40
def iN_X0_init (N9 : NM) : NM := (clr (iN_X4_init (clr (iN_X4_init (clr (iN_X4_init (clr (iN_X4_init (clr (iN_X4_init (clr (iN_X4_init (clr (iN_X4_init (clr (iN_X4_init (clr (iN_X4_init (clr (iN_X4_init (clr N9 20 0) 22) 21 0) 25) 21 1) 28) 21 2) 31) 21 3) 34) 21 4) 37) 21 5) 40) 21 6) 43) 21 7) 46) 21 8) 49) 21 9)
set_option maxRecDepth 20000 in
theorem cc_X0_init {G : Gl} {N9 : NM} (M : Mem) {res : Mem} (hf : f_X0_init M = some res) : CtC G miX0_init yX0_init 2 31 2570 [aR 20] 21 N9 M none 52 (iN_X0_init N9) res := by
  refine CtC.of (fl := true) (L := [some (aR 20), none]) mwX0_init rfl trivial nle ⟨rfl, trivial⟩ (fun _ => rfl) ?_
  unfold f_X0_init at hf
  unfold iN_X0_init
  refine C_aload_n dX0_init_0 rfl rfl ?_
  refine C_objInit dX0_init_1 wd190 wd31 wd32 rfl ⟨nle, nle⟩ ?_
  refine C_aload_n dX0_init_4 rfl rfl ?_
  refine C_bipush dX0_init_5 (v := 10) rfl ?_
  refine C_anew (len := 10) dX0_init_7 wd191 (a_21).2 rfl (a_21).1 nle ⟨nle, nle⟩ ?_
  refine C_norm (n1 := 22) (c1 := 1) (s1 := 10) rfl rfl rfl ?_
  refine C_putR (k := 0) dX0_init_10 clc0 flcX0_11 o_20 ff0_0 (fr0_0 _) a_21.1 rfl (by omega) ?_
  refine C_aload_n dX0_init_13 rfl rfl ?_
  refine C_iconst dX0_init_14 (v := 0) rfl ?_
  obtain ⟨M15, hM15, hf⟩ := ltE hf
  refine C_put (ki := 1) dX0_init_15 cl0 flX0_17 o_20 (Or.inl fz0_1) rfl hM15 ?_
  refine C_aload_n dX0_init_18 rfl rfl ?_
  refine C_iconst dX0_init_19 (v := 0) rfl ?_
  obtain ⟨M20, hM20, hf⟩ := ltE hf
  refine C_put (ki := 2) dX0_init_20 cl0 flX0_21 o_20 (Or.inl fz0_2) rfl hM20 ?_
  refine C_iconst dX0_init_23 (v := 0) rfl ?_
  refine C_istore_n dX0_init_24 rfl (by decide) rfl rfl ?_
  refine C_iload_n dX0_init_25 rfl rfl ?_
  refine C_bipush dX0_init_26 (v := 10) rfl ?_
  refine C_icmp_ge dX0_init_28 rfl (fun h => absurd h (by decide)) (fun _ => ?_)
  refine C_aload_n dX0_init_31 rfl rfl ?_
  refine C_getR dX0_init_32 cl0 flX0_11 o_20 ff0_0 (fr0_0 _) a_21.1 ?_ (by omega) rfl
  refine C_iload_n dX0_init_35 rfl rfl ?_
  refine C_new dX0_init_36 clc4 wd191 wd145 wd7 rfl (by decide) ⟨nle, nle⟩ ?_
  refine C_norm (n1 := 23) (c1 := 2) (s1 := 18) rfl rfl rfl ?_
  refine C_dupR dX0_init_39 ?_
  obtain ⟨p2_40, hp2_40, hf⟩ := bdE hf
  refine C_callI (n' := 25) (N' := iN_X4_init (clr N9 20 0) 22) (As := []) (st := [aR 22, aI 0, aR 21]) dX0_init_40 (cc_X4_init _ _ o_22 hp2_40) mwX4_init rfl rfl wd147 mlX0_24 rfl rfl ⟨nle, nle, nle, nle⟩ nle rfl ?_
  refine C_norm (n1 := 25) (c1 := 4) (s1 := 266) rfl rfl rfl ?_
  refine C_aastore (i := 0) dX0_init_43 a_21 (by decide) (by decide) rfl o_22 cl4 (by omega) (by omega) ?_
  refine C_iinc dX0_init_44 rfl rfl (show (1 : Int) = w32 (0 + 1) from by decide) (by decide) rfl ?_
  refine C_goto dX0_init_47 rfl ?_
  refine C_iload_n dX0_init_25 rfl rfl ?_
  refine C_bipush dX0_init_26 (v := 10) rfl ?_
  refine C_icmp_ge dX0_init_28 rfl (fun h => absurd h (by decide)) (fun _ => ?_)
  refine C_aload_n dX0_init_31 rfl rfl ?_
  refine C_getR dX0_init_32 cl0 flX0_11 o_20 ff0_0 (fr0_0 _) a_21.1 ?_ (by omega) rfl
  refine C_iload_n dX0_init_35 rfl rfl ?_
  refine C_new dX0_init_36 clc4 wd191 wd145 wd7 rfl (by decide) ⟨nle, nle⟩ ?_
  refine C_norm (n1 := 26) (c1 := 5) (s1 := 274) rfl rfl rfl ?_
  refine C_dupR dX0_init_39 ?_
  obtain ⟨p3_40, hp3_40, hf⟩ := bdE hf
  refine C_callI (n' := 28) (N' := iN_X4_init (clr (iN_X4_init (clr N9 20 0) 22) 21 0) 25) (As := []) (st := [aR 25, aI 1, aR 21]) dX0_init_40 (cc_X4_init _ _ o_25 hp3_40) mwX4_init rfl rfl wd147 mlX0_24 rfl rfl ⟨nle, nle, nle, nle⟩ nle rfl ?_
  refine C_norm (n1 := 28) (c1 := 7) (s1 := 522) rfl rfl rfl ?_
  refine C_aastore (i := 1) dX0_init_43 a_21 (by decide) (by decide) rfl o_25 cl4 (by omega) (by omega) ?_
  refine C_iinc dX0_init_44 rfl rfl (show (2 : Int) = w32 (1 + 1) from by decide) (by decide) rfl ?_
  refine C_goto dX0_init_47 rfl ?_
  refine C_iload_n dX0_init_25 rfl rfl ?_
  refine C_bipush dX0_init_26 (v := 10) rfl ?_
  refine C_icmp_ge dX0_init_28 rfl (fun h => absurd h (by decide)) (fun _ => ?_)
  refine C_aload_n dX0_init_31 rfl rfl ?_
  refine C_getR dX0_init_32 cl0 flX0_11 o_20 ff0_0 (fr0_0 _) a_21.1 ?_ (by omega) rfl
  refine C_iload_n dX0_init_35 rfl rfl ?_
  refine C_new dX0_init_36 clc4 wd191 wd145 wd7 rfl (by decide) ⟨nle, nle⟩ ?_
  refine C_norm (n1 := 29) (c1 := 8) (s1 := 530) rfl rfl rfl ?_
  refine C_dupR dX0_init_39 ?_
  obtain ⟨p4_40, hp4_40, hf⟩ := bdE hf
  refine C_callI (n' := 31) (N' := iN_X4_init (clr (iN_X4_init (clr (iN_X4_init (clr N9 20 0) 22) 21 0) 25) 21 1) 28) (As := []) (st := [aR 28, aI 2, aR 21]) dX0_init_40 (cc_X4_init _ _ o_28 hp4_40) mwX4_init rfl rfl wd147 mlX0_24 rfl rfl ⟨nle, nle, nle, nle⟩ nle rfl ?_
  refine C_norm (n1 := 31) (c1 := 10) (s1 := 778) rfl rfl rfl ?_
  refine C_aastore (i := 2) dX0_init_43 a_21 (by decide) (by decide) rfl o_28 cl4 (by omega) (by omega) ?_
  refine C_iinc dX0_init_44 rfl rfl (show (3 : Int) = w32 (2 + 1) from by decide) (by decide) rfl ?_
  refine C_goto dX0_init_47 rfl ?_
  refine C_iload_n dX0_init_25 rfl rfl ?_
  refine C_bipush dX0_init_26 (v := 10) rfl ?_
  refine C_icmp_ge dX0_init_28 rfl (fun h => absurd h (by decide)) (fun _ => ?_)
  refine C_aload_n dX0_init_31 rfl rfl ?_
  refine C_getR dX0_init_32 cl0 flX0_11 o_20 ff0_0 (fr0_0 _) a_21.1 ?_ (by omega) rfl
  refine C_iload_n dX0_init_35 rfl rfl ?_
  refine C_new dX0_init_36 clc4 wd191 wd145 wd7 rfl (by decide) ⟨nle, nle⟩ ?_
  refine C_norm (n1 := 32) (c1 := 11) (s1 := 786) rfl rfl rfl ?_
  refine C_dupR dX0_init_39 ?_
  obtain ⟨p5_40, hp5_40, hf⟩ := bdE hf
  refine C_callI (n' := 34) (N' := iN_X4_init (clr (iN_X4_init (clr (iN_X4_init (clr (iN_X4_init (clr N9 20 0) 22) 21 0) 25) 21 1) 28) 21 2) 31) (As := []) (st := [aR 31, aI 3, aR 21]) dX0_init_40 (cc_X4_init _ _ o_31 hp5_40) mwX4_init rfl rfl wd147 mlX0_24 rfl rfl ⟨nle, nle, nle, nle⟩ nle rfl ?_
  refine C_norm (n1 := 34) (c1 := 13) (s1 := 1034) rfl rfl rfl ?_
  refine C_aastore (i := 3) dX0_init_43 a_21 (by decide) (by decide) rfl o_31 cl4 (by omega) (by omega) ?_
  refine C_iinc dX0_init_44 rfl rfl (show (4 : Int) = w32 (3 + 1) from by decide) (by decide) rfl ?_
  refine C_goto dX0_init_47 rfl ?_
  refine C_iload_n dX0_init_25 rfl rfl ?_
  refine C_bipush dX0_init_26 (v := 10) rfl ?_
  refine C_icmp_ge dX0_init_28 rfl (fun h => absurd h (by decide)) (fun _ => ?_)
  refine C_aload_n dX0_init_31 rfl rfl ?_
  refine C_getR dX0_init_32 cl0 flX0_11 o_20 ff0_0 (fr0_0 _) a_21.1 ?_ (by omega) rfl
  refine C_iload_n dX0_init_35 rfl rfl ?_
  refine C_new dX0_init_36 clc4 wd191 wd145 wd7 rfl (by decide) ⟨nle, nle⟩ ?_
  refine C_norm (n1 := 35) (c1 := 14) (s1 := 1042) rfl rfl rfl ?_
  refine C_dupR dX0_init_39 ?_
  obtain ⟨p6_40, hp6_40, hf⟩ := bdE hf
  refine C_callI (n' := 37) (N' := iN_X4_init (clr (iN_X4_init (clr (iN_X4_init (clr (iN_X4_init (clr (iN_X4_init (clr N9 20 0) 22) 21 0) 25) 21 1) 28) 21 2) 31) 21 3) 34) (As := []) (st := [aR 34, aI 4, aR 21]) dX0_init_40 (cc_X4_init _ _ o_34 hp6_40) mwX4_init rfl rfl wd147 mlX0_24 rfl rfl ⟨nle, nle, nle, nle⟩ nle rfl ?_
  refine C_norm (n1 := 37) (c1 := 16) (s1 := 1290) rfl rfl rfl ?_
  refine C_aastore (i := 4) dX0_init_43 a_21 (by decide) (by decide) rfl o_34 cl4 (by omega) (by omega) ?_
  refine C_iinc dX0_init_44 rfl rfl (show (5 : Int) = w32 (4 + 1) from by decide) (by decide) rfl ?_
  refine C_goto dX0_init_47 rfl ?_
  refine C_iload_n dX0_init_25 rfl rfl ?_
  refine C_bipush dX0_init_26 (v := 10) rfl ?_
  refine C_icmp_ge dX0_init_28 rfl (fun h => absurd h (by decide)) (fun _ => ?_)
  refine C_aload_n dX0_init_31 rfl rfl ?_
  refine C_getR dX0_init_32 cl0 flX0_11 o_20 ff0_0 (fr0_0 _) a_21.1 ?_ (by omega) rfl
  refine C_iload_n dX0_init_35 rfl rfl ?_
  refine C_new dX0_init_36 clc4 wd191 wd145 wd7 rfl (by decide) ⟨nle, nle⟩ ?_
  refine C_norm (n1 := 38) (c1 := 17) (s1 := 1298) rfl rfl rfl ?_
  refine C_dupR dX0_init_39 ?_
  obtain ⟨p7_40, hp7_40, hf⟩ := bdE hf
  refine C_callI (n' := 40) (N' := iN_X4_init (clr (iN_X4_init (clr (iN_X4_init (clr (iN_X4_init (clr (iN_X4_init (clr (iN_X4_init (clr N9 20 0) 22) 21 0) 25) 21 1) 28) 21 2) 31) 21 3) 34) 21 4) 37) (As := []) (st := [aR 37, aI 5, aR 21]) dX0_init_40 (cc_X4_init _ _ o_37 hp7_40) mwX4_init rfl rfl wd147 mlX0_24 rfl rfl ⟨nle, nle, nle, nle⟩ nle rfl ?_
  refine C_norm (n1 := 40) (c1 := 19) (s1 := 1546) rfl rfl rfl ?_
  refine C_aastore (i := 5) dX0_init_43 a_21 (by decide) (by decide) rfl o_37 cl4 (by omega) (by omega) ?_
  refine C_iinc dX0_init_44 rfl rfl (show (6 : Int) = w32 (5 + 1) from by decide) (by decide) rfl ?_
  refine C_goto dX0_init_47 rfl ?_
  refine C_iload_n dX0_init_25 rfl rfl ?_
  refine C_bipush dX0_init_26 (v := 10) rfl ?_
  refine C_icmp_ge dX0_init_28 rfl (fun h => absurd h (by decide)) (fun _ => ?_)
  refine C_aload_n dX0_init_31 rfl rfl ?_
  refine C_getR dX0_init_32 cl0 flX0_11 o_20 ff0_0 (fr0_0 _) a_21.1 ?_ (by omega) rfl
  refine C_iload_n dX0_init_35 rfl rfl ?_
  refine C_new dX0_init_36 clc4 wd191 wd145 wd7 rfl (by decide) ⟨nle, nle⟩ ?_
  refine C_norm (n1 := 41) (c1 := 20) (s1 := 1554) rfl rfl rfl ?_
  refine C_dupR dX0_init_39 ?_
  obtain ⟨p8_40, hp8_40, hf⟩ := bdE hf
  refine C_callI (n' := 43) (N' := iN_X4_init (clr (iN_X4_init (clr (iN_X4_init (clr (iN_X4_init (clr (iN_X4_init (clr (iN_X4_init (clr (iN_X4_init (clr N9 20 0) 22) 21 0) 25) 21 1) 28) 21 2) 31) 21 3) 34) 21 4) 37) 21 5) 40) (As := []) (st := [aR 40, aI 6, aR 21]) dX0_init_40 (cc_X4_init _ _ o_40 hp8_40) mwX4_init rfl rfl wd147 mlX0_24 rfl rfl ⟨nle, nle, nle, nle⟩ nle rfl ?_
  refine C_norm (n1 := 43) (c1 := 22) (s1 := 1802) rfl rfl rfl ?_
  refine C_aastore (i := 6) dX0_init_43 a_21 (by decide) (by decide) rfl o_40 cl4 (by omega) (by omega) ?_
  refine C_iinc dX0_init_44 rfl rfl (show (7 : Int) = w32 (6 + 1) from by decide) (by decide) rfl ?_
  refine C_goto dX0_init_47 rfl ?_
  refine C_iload_n dX0_init_25 rfl rfl ?_
  refine C_bipush dX0_init_26 (v := 10) rfl ?_
  refine C_icmp_ge dX0_init_28 rfl (fun h => absurd h (by decide)) (fun _ => ?_)
  refine C_aload_n dX0_init_31 rfl rfl ?_
  refine C_getR dX0_init_32 cl0 flX0_11 o_20 ff0_0 (fr0_0 _) a_21.1 ?_ (by omega) rfl
  refine C_iload_n dX0_init_35 rfl rfl ?_
  refine C_new dX0_init_36 clc4 wd191 wd145 wd7 rfl (by decide) ⟨nle, nle⟩ ?_
  refine C_norm (n1 := 44) (c1 := 23) (s1 := 1810) rfl rfl rfl ?_
  refine C_dupR dX0_init_39 ?_
  obtain ⟨p9_40, hp9_40, hf⟩ := bdE hf
  refine C_callI (n' := 46) (N' := iN_X4_init (clr (iN_X4_init (clr (iN_X4_init (clr (iN_X4_init (clr (iN_X4_init (clr (iN_X4_init (clr (iN_X4_init (clr (iN_X4_init (clr N9 20 0) 22) 21 0) 25) 21 1) 28) 21 2) 31) 21 3) 34) 21 4) 37) 21 5) 40) 21 6) 43) (As := []) (st := [aR 43, aI 7, aR 21]) dX0_init_40 (cc_X4_init _ _ o_43 hp9_40) mwX4_init rfl rfl wd147 mlX0_24 rfl rfl ⟨nle, nle, nle, nle⟩ nle rfl ?_
  refine C_norm (n1 := 46) (c1 := 25) (s1 := 2058) rfl rfl rfl ?_
  refine C_aastore (i := 7) dX0_init_43 a_21 (by decide) (by decide) rfl o_43 cl4 (by omega) (by omega) ?_
  refine C_iinc dX0_init_44 rfl rfl (show (8 : Int) = w32 (7 + 1) from by decide) (by decide) rfl ?_
  refine C_goto dX0_init_47 rfl ?_
  refine C_iload_n dX0_init_25 rfl rfl ?_
  refine C_bipush dX0_init_26 (v := 10) rfl ?_
  refine C_icmp_ge dX0_init_28 rfl (fun h => absurd h (by decide)) (fun _ => ?_)
  refine C_aload_n dX0_init_31 rfl rfl ?_
  refine C_getR dX0_init_32 cl0 flX0_11 o_20 ff0_0 (fr0_0 _) a_21.1 ?_ (by omega) rfl
  refine C_iload_n dX0_init_35 rfl rfl ?_
  refine C_new dX0_init_36 clc4 wd191 wd145 wd7 rfl (by decide) ⟨nle, nle⟩ ?_
  refine C_norm (n1 := 47) (c1 := 26) (s1 := 2066) rfl rfl rfl ?_
  refine C_dupR dX0_init_39 ?_
  obtain ⟨p10_40, hp10_40, hf⟩ := bdE hf
  refine C_callI (n' := 49) (N' := iN_X4_init (clr (iN_X4_init (clr (iN_X4_init (clr (iN_X4_init (clr (iN_X4_init (clr (iN_X4_init (clr (iN_X4_init (clr (iN_X4_init (clr (iN_X4_init (clr N9 20 0) 22) 21 0) 25) 21 1) 28) 21 2) 31) 21 3) 34) 21 4) 37) 21 5) 40) 21 6) 43) 21 7) 46) (As := []) (st := [aR 46, aI 8, aR 21]) dX0_init_40 (cc_X4_init _ _ o_46 hp10_40) mwX4_init rfl rfl wd147 mlX0_24 rfl rfl ⟨nle, nle, nle, nle⟩ nle rfl ?_
  refine C_norm (n1 := 49) (c1 := 28) (s1 := 2314) rfl rfl rfl ?_
  refine C_aastore (i := 8) dX0_init_43 a_21 (by decide) (by decide) rfl o_46 cl4 (by omega) (by omega) ?_
  refine C_iinc dX0_init_44 rfl rfl (show (9 : Int) = w32 (8 + 1) from by decide) (by decide) rfl ?_
  refine C_goto dX0_init_47 rfl ?_
  refine C_iload_n dX0_init_25 rfl rfl ?_
  refine C_bipush dX0_init_26 (v := 10) rfl ?_
  refine C_icmp_ge dX0_init_28 rfl (fun h => absurd h (by decide)) (fun _ => ?_)
  refine C_aload_n dX0_init_31 rfl rfl ?_
  refine C_getR dX0_init_32 cl0 flX0_11 o_20 ff0_0 (fr0_0 _) a_21.1 ?_ (by omega) rfl
  refine C_iload_n dX0_init_35 rfl rfl ?_
  refine C_new dX0_init_36 clc4 wd191 wd145 wd7 rfl (by decide) ⟨nle, nle⟩ ?_
  refine C_norm (n1 := 50) (c1 := 29) (s1 := 2322) rfl rfl rfl ?_
  refine C_dupR dX0_init_39 ?_
  obtain ⟨p11_40, hp11_40, hf⟩ := bdE hf
  refine C_callI (n' := 52) (N' := iN_X4_init (clr (iN_X4_init (clr (iN_X4_init (clr (iN_X4_init (clr (iN_X4_init (clr (iN_X4_init (clr (iN_X4_init (clr (iN_X4_init (clr (iN_X4_init (clr (iN_X4_init (clr N9 20 0) 22) 21 0) 25) 21 1) 28) 21 2) 31) 21 3) 34) 21 4) 37) 21 5) 40) 21 6) 43) 21 7) 46) 21 8) 49) (As := []) (st := [aR 49, aI 9, aR 21]) dX0_init_40 (cc_X4_init _ _ o_49 hp11_40) mwX4_init rfl rfl wd147 mlX0_24 rfl rfl ⟨nle, nle, nle, nle⟩ nle rfl ?_
  refine C_norm (n1 := 52) (c1 := 31) (s1 := 2570) rfl rfl rfl ?_
  refine C_aastore (i := 9) dX0_init_43 a_21 (by decide) (by decide) rfl o_49 cl4 (by omega) (by omega) ?_
  refine C_iinc dX0_init_44 rfl rfl (show (10 : Int) = w32 (9 + 1) from by decide) (by decide) rfl ?_
  refine C_goto dX0_init_47 rfl ?_
  refine C_iload_n dX0_init_25 rfl rfl ?_
  refine C_bipush dX0_init_26 (v := 10) rfl ?_
  refine C_icmp_ge dX0_init_28 rfl (fun _ => ?_) (fun h => absurd h (by decide))
  cases hf; exact EC_vret dX0_init_50 rfl rfl rfl
def f_X2_init (M : Mem) : Option Mem :=
  lt1 (up M 66 10 0) fun M96 =>
  lt1 (up M96 66 11 0) fun M101 =>
  lt1 (up M101 66 12 0) fun M106 =>
  lt1 (up M106 66 13 0) fun M111 =>
  lt1 (up M111 66 14 0) fun M116 =>
  lt1 (up M116 66 15 0) fun M121 =>
  some M121
def iN_X2_init (N9 : NM) : NM := (clr (clr (clr (clr (clr (clr (clr (clr (clr (clr N9 66 0) 66 1) 66 2) 66 3) 66 4) 66 5) 66 6) 66 7) 66 8) 66 9)
set_option maxRecDepth 20000 in
theorem cc_X2_init {G : Gl} {N9 : NM} (M : Mem) {res : Mem} (hf : f_X2_init M = some res) : CtC G miX2_init yX2_init 1 10 60244 [aR 66] 67 N9 M none 77 (iN_X2_init N9) res := by
  refine CtC.of (fl := true) (L := [some (aR 66)]) mwX2_init rfl trivial nle ⟨rfl, trivial⟩ (fun _ => rfl) ?_
  unfold f_X2_init at hf
  unfold iN_X2_init
  refine C_aload_n dX2_init_0 rfl rfl ?_
  refine C_objInit dX2_init_1 wd259 wd31 wd32 rfl ⟨nle, nle⟩ ?_
  refine C_aload_n dX2_init_4 rfl rfl ?_
  refine C_sipush dX2_init_5 (v := 240) rfl ?_
  refine C_newa (t := 0) (len := 240) dX2_init_8 (by decide) rfl wd47 (a_67).2 rfl (a_67).1 nle ⟨nle, nle⟩ ?_
  refine C_norm (n1 := 68) (c1 := 1) (s1 := 240) rfl rfl rfl ?_
  refine C_putR (k := 0) dX2_init_10 clc2 flcX2_9 o_66 ff2_0 (fr2_0 _) a_67.1 rfl (by omega) ?_
  refine C_aload_n dX2_init_13 rfl rfl ?_
  refine C_sipush dX2_init_14 (v := 240) rfl ?_
  refine C_newa (t := 0) (len := 240) dX2_init_17 (by decide) rfl wd47 (a_68).2 rfl (a_68).1 nle ⟨nle, nle⟩ ?_
  refine C_norm (n1 := 69) (c1 := 2) (s1 := 480) rfl rfl rfl ?_
  refine C_putR (k := 1) dX2_init_19 clc2 flcX2_15 o_66 ff2_1 (fr2_1 _) a_68.1 rfl (by omega) ?_
  refine C_aload_n dX2_init_22 rfl rfl ?_
  refine C_sipush dX2_init_23 (v := 240) rfl ?_
  refine C_newa (t := 1) (len := 240) dX2_init_26 (by decide) rfl wd253 (a_69).2 rfl (a_69).1 nle ⟨nle, nle⟩ ?_
  refine C_norm (n1 := 70) (c1 := 3) (s1 := 720) rfl rfl rfl ?_
  refine C_putR (k := 2) dX2_init_28 clc2 flcX2_18 o_66 ff2_2 (fr2_2 _) a_69.1 rfl (by omega) ?_
  refine C_aload_n dX2_init_31 rfl rfl ?_
  refine C_sipush dX2_init_32 (v := 29161) rfl ?_
  refine C_newa (t := 0) (len := 29161) dX2_init_35 (by decide) rfl wd47 (a_70).2 rfl (a_70).1 nle ⟨nle, nle⟩ ?_
  refine C_norm (n1 := 71) (c1 := 4) (s1 := 29881) rfl rfl rfl ?_
  refine C_putR (k := 3) dX2_init_37 clc2 flcX2_22 o_66 ff2_3 (fr2_3 _) a_70.1 rfl (by omega) ?_
  refine C_aload_n dX2_init_40 rfl rfl ?_
  refine C_sipush dX2_init_41 (v := 29161) rfl ?_
  refine C_newa (t := 0) (len := 29161) dX2_init_44 (by decide) rfl wd47 (a_71).2 rfl (a_71).1 nle ⟨nle, nle⟩ ?_
  refine C_norm (n1 := 72) (c1 := 5) (s1 := 59042) rfl rfl rfl ?_
  refine C_putR (k := 4) dX2_init_46 clc2 flcX2_25 o_66 ff2_4 (fr2_4 _) a_71.1 rfl (by omega) ?_
  refine C_aload_n dX2_init_49 rfl rfl ?_
  refine C_sipush dX2_init_50 (v := 242) rfl ?_
  refine C_newa (t := 0) (len := 242) dX2_init_53 (by decide) rfl wd47 (a_72).2 rfl (a_72).1 nle ⟨nle, nle⟩ ?_
  refine C_norm (n1 := 73) (c1 := 6) (s1 := 59284) rfl rfl rfl ?_
  refine C_putR (k := 5) dX2_init_55 clc2 flcX2_28 o_66 ff2_5 (fr2_5 _) a_72.1 rfl (by omega) ?_
  refine C_aload_n dX2_init_58 rfl rfl ?_
  refine C_sipush dX2_init_59 (v := 240) rfl ?_
  refine C_newa (t := 0) (len := 240) dX2_init_62 (by decide) rfl wd47 (a_73).2 rfl (a_73).1 nle ⟨nle, nle⟩ ?_
  refine C_norm (n1 := 74) (c1 := 7) (s1 := 59524) rfl rfl rfl ?_
  refine C_putR (k := 6) dX2_init_64 clc2 flcX2_31 o_66 ff2_6 (fr2_6 _) a_73.1 rfl (by omega) ?_
  refine C_aload_n dX2_init_67 rfl rfl ?_
  refine C_sipush dX2_init_68 (v := 240) rfl ?_
  refine C_newa (t := 0) (len := 240) dX2_init_71 (by decide) rfl wd47 (a_74).2 rfl (a_74).1 nle ⟨nle, nle⟩ ?_
  refine C_norm (n1 := 75) (c1 := 8) (s1 := 59764) rfl rfl rfl ?_
  refine C_putR (k := 7) dX2_init_73 clc2 flcX2_34 o_66 ff2_7 (fr2_7 _) a_74.1 rfl (by omega) ?_
  refine C_aload_n dX2_init_76 rfl rfl ?_
  refine C_sipush dX2_init_77 (v := 240) rfl ?_
  refine C_newa (t := 0) (len := 240) dX2_init_80 (by decide) rfl wd47 (a_75).2 rfl (a_75).1 nle ⟨nle, nle⟩ ?_
  refine C_norm (n1 := 76) (c1 := 9) (s1 := 60004) rfl rfl rfl ?_
  refine C_putR (k := 8) dX2_init_82 clc2 flcX2_37 o_66 ff2_8 (fr2_8 _) a_75.1 rfl (by omega) ?_
  refine C_aload_n dX2_init_85 rfl rfl ?_
  refine C_sipush dX2_init_86 (v := 240) rfl ?_
  refine C_newa (t := 0) (len := 240) dX2_init_89 (by decide) rfl wd47 (a_76).2 rfl (a_76).1 nle ⟨nle, nle⟩ ?_
  refine C_norm (n1 := 77) (c1 := 10) (s1 := 60244) rfl rfl rfl ?_
  refine C_putR (k := 9) dX2_init_91 clc2 flcX2_40 o_66 ff2_9 (fr2_9 _) a_76.1 rfl (by omega) ?_
  refine C_aload_n dX2_init_94 rfl rfl ?_
  refine C_iconst dX2_init_95 (v := 0) rfl ?_
  obtain ⟨M96, hM96, hf⟩ := ltE hf
  refine C_put (ki := 10) dX2_init_96 cl2 flX2_43 o_66 (Or.inl fz2_10) rfl hM96 ?_
  refine C_aload_n dX2_init_99 rfl rfl ?_
  refine C_iconst dX2_init_100 (v := 0) rfl ?_
  obtain ⟨M101, hM101, hf⟩ := ltE hf
  refine C_put (ki := 11) dX2_init_101 cl2 flX2_47 o_66 (Or.inl fz2_11) rfl hM101 ?_
  refine C_aload_n dX2_init_104 rfl rfl ?_
  refine C_iconst dX2_init_105 (v := 0) rfl ?_
  obtain ⟨M106, hM106, hf⟩ := ltE hf
  refine C_put (ki := 12) dX2_init_106 cl2 flX2_50 o_66 (Or.inl fz2_12) rfl hM106 ?_
  refine C_aload_n dX2_init_109 rfl rfl ?_
  refine C_iconst dX2_init_110 (v := 0) rfl ?_
  obtain ⟨M111, hM111, hf⟩ := ltE hf
  refine C_put (ki := 13) dX2_init_111 cl2 flX2_53 o_66 (Or.inl fz2_13) rfl hM111 ?_
  refine C_aload_n dX2_init_114 rfl rfl ?_
  refine C_iconst dX2_init_115 (v := 0) rfl ?_
  obtain ⟨M116, hM116, hf⟩ := ltE hf
  refine C_put (ki := 14) dX2_init_116 cl2 flX2_56 o_66 (Or.inl fz2_14) rfl hM116 ?_
  refine C_aload_n dX2_init_119 rfl rfl ?_
  refine C_iconst dX2_init_120 (v := 0) rfl ?_
  obtain ⟨M121, hM121, hf⟩ := ltE hf
  refine C_put (ki := 15) dX2_init_121 cl2 flX2_59 o_66 (Or.inl fz2_15) rfl hM121 ?_
  cases hf; exact EC_vret dX2_init_124 rfl rfl rfl
def f_X9_init (M : Mem) : Option Mem :=
  (f_X1_init M).bind fun p0_9 =>
  (f_X8_init p0_9).bind fun p1_24 =>
  (f_X6_init p1_24).bind fun p2_35 =>
  (f_X3_init p2_35).bind fun p3_46 =>
  (f_X7_init 11 p3_46).bind fun p4_57 =>
  (f_X4_init 14 p4_57).bind fun p5_68 =>
  (f_X4_init 17 p5_68).bind fun p6_79 =>
  (f_X0_init p6_79).bind fun p7_90 =>
  (f_X5_init 54 p7_90).bind fun p8_116 =>
  (f_X5_init 60 p8_116).bind fun p9_127 =>
  (f_X2_init p9_127).bind fun p10_138 =>
  lt1 (up p10_138 0 14 0) fun M155 =>
  lt1 (up M155 0 15 (-1)) fun M160 =>
  lt1 (up M160 0 16 1) fun M165 =>
  lt1 (up M165 0 17 1) fun M170 =>
  (f_X7_addKind 11 40 41 M170).bind fun p181 =>
  (f_X4_init 78 p181.2).bind fun p16_201 =>
  (f_X4_init 81 p16_201).bind fun p17_201 =>
  some p17_201
def iN_X9_init (N9 : NM) : NM := (clr (iN_X4_init (clr (iN_X4_init (clr (clr (iN_X2_init (clr (iN_X5_init (clr (iN_X5_init (clr (clr (clr (iN_X0_init (clr (iN_X4_init (clr (iN_X4_init (clr (iN_X7_init (clr (iN_X3_init (clr (iN_X6_init (clr (iN_X8_init (clr (iN_X1_init N9) 0 0)) 0 1)) 0 2)) 0 3) 11) 0 4) 14) 0 5) 17) 0 6)) 0 7) 0 8) 0 9) 54) 0 10) 60) 0 11)) 0 12) 0 13) 78) 52 0) 81) 52 1)
set_option maxRecDepth 20000 in
theorem cc_X9_init {G : Gl} {N9 : NM} (M : Mem) {res : Mem} (hf : f_X9_init M = some res) : CtC G miX9_init yX9_init 3 83 67818 [aR 0] 1 N9 M none 84 (iN_X9_init N9) res := by
  refine CtC.of (fl := true) (L := [some (aR 0), none]) mwX9_init rfl trivial nle ⟨rfl, trivial⟩ (fun _ => rfl) ?_
  unfold f_X9_init at hf
  unfold iN_X9_init
  refine C_aload_n dX9_init_0 rfl rfl ?_
  refine C_objInit dX9_init_1 wd30 wd31 wd32 rfl ⟨nle, nle⟩ ?_
  refine C_aload_n dX9_init_4 rfl rfl ?_
  refine C_new dX9_init_5 clc1 wd33 wd34 wd2 rfl (by decide) ⟨nle, nle⟩ ?_
  refine C_norm (n1 := 2) (c1 := 1) (s1 := 2) rfl rfl rfl ?_
  refine C_dupR dX9_init_8 ?_
  obtain ⟨p0_9, hp0_9, hf⟩ := bdE hf
  refine C_callI (n' := 3) (N' := iN_X1_init N9) (As := []) (st := [aR 1, aR 0]) dX9_init_9 (cc_X1_init _ hp0_9) mwX1_init rfl rfl wd36 mlX9_11 rfl rfl ⟨nle, nle, nle, nle⟩ nle rfl ?_
  refine C_norm (n1 := 3) (c1 := 2) (s1 := 602) rfl rfl rfl ?_
  refine C_putR (k := 0) dX9_init_12 clc9 flcX9_12 o_0 ff9_0 (fr9_0 _) o_1.1 rfl (by omega) ?_
  refine C_aload_n dX9_init_15 rfl rfl ?_
  refine C_new dX9_init_16 clc8 wd48 wd49 wd3 rfl (by decide) ⟨nle, nle⟩ ?_
  refine C_norm (n1 := 4) (c1 := 3) (s1 := 607) rfl rfl rfl ?_
  refine C_dupR dX9_init_19 ?_
  refine C_aload_n dX9_init_20 rfl rfl ?_
  refine C_getR dX9_init_21 cl9 flX9_12 o_0 ff9_0 (fr9_0 _) o_1.1 ?_ (by omega) rfl
  obtain ⟨p1_24, hp1_24, hf⟩ := bdE hf
  refine C_callI (n' := 4) (N' := iN_X8_init (clr (iN_X1_init N9) 0 0)) (As := [aR 1]) (st := [aR 3, aR 0]) dX9_init_24 (cc_X8_init _ hp1_24) mwX8_init rfl rfl wd51 mlX9_18 rfl rfl ⟨nle, nle, nle, nle⟩ nle rfl ?_
  refine C_norm (n1 := 4) (c1 := 3) (s1 := 607) rfl rfl rfl ?_
  refine C_putR (k := 1) dX9_init_27 clc9 flcX9_21 o_0 ff9_1 (fr9_1 _) o_3.1 rfl (by omega) ?_
  refine C_aload_n dX9_init_30 rfl rfl ?_
  refine C_new dX9_init_31 clc6 wd71 wd72 wd4 rfl (by decide) ⟨nle, nle⟩ ?_
  refine C_norm (n1 := 5) (c1 := 4) (s1 := 614) rfl rfl rfl ?_
  refine C_dupR dX9_init_34 ?_
  obtain ⟨p2_35, hp2_35, hf⟩ := bdE hf
  refine C_callI (n' := 8) (N' := iN_X6_init (clr (iN_X8_init (clr (iN_X1_init N9) 0 0)) 0 1)) (As := []) (st := [aR 4, aR 0]) dX9_init_35 (cc_X6_init _ hp2_35) mwX6_init rfl rfl wd74 mlX9_27 rfl rfl ⟨nle, nle, nle, nle⟩ nle rfl ?_
  refine C_norm (n1 := 8) (c1 := 7) (s1 := 752) rfl rfl rfl ?_
  refine C_putR (k := 2) dX9_init_38 clc9 flcX9_28 o_0 ff9_2 (fr9_2 _) o_4.1 rfl (by omega) ?_
  refine C_aload_n dX9_init_41 rfl rfl ?_
  refine C_new dX9_init_42 clc3 wd125 wd126 wd6 rfl (by decide) ⟨nle, nle⟩ ?_
  refine C_norm (n1 := 9) (c1 := 8) (s1 := 755) rfl rfl rfl ?_
  refine C_dupR dX9_init_45 ?_
  obtain ⟨p3_46, hp3_46, hf⟩ := bdE hf
  refine C_callI (n' := 11) (N' := iN_X3_init (clr (iN_X6_init (clr (iN_X8_init (clr (iN_X1_init N9) 0 0)) 0 1)) 0 2)) (As := []) (st := [aR 8, aR 0]) dX9_init_46 (cc_X3_init _ hp3_46) mwX3_init rfl rfl wd128 mlX9_34 rfl rfl ⟨nle, nle, nle, nle⟩ nle rfl ?_
  refine C_norm (n1 := 11) (c1 := 10) (s1 := 1155) rfl rfl rfl ?_
  refine C_putR (k := 3) dX9_init_49 clc9 flcX9_35 o_0 ff9_3 (fr9_3 _) o_8.1 rfl (by omega) ?_
  refine C_aload_n dX9_init_52 rfl rfl ?_
  refine C_new dX9_init_53 clc7 wd142 wd78 wd5 rfl (by decide) ⟨nle, nle⟩ ?_
  refine C_norm (n1 := 12) (c1 := 11) (s1 := 1158) rfl rfl rfl ?_
  refine C_dupR dX9_init_56 ?_
  obtain ⟨p4_57, hp4_57, hf⟩ := bdE hf
  refine C_callI (n' := 14) (N' := iN_X7_init (clr (iN_X3_init (clr (iN_X6_init (clr (iN_X8_init (clr (iN_X1_init N9) 0 0)) 0 1)) 0 2)) 0 3) 11) (As := []) (st := [aR 11, aR 0]) dX9_init_57 (cc_X7_init _ _ o_11 hp4_57) mwX7_init rfl rfl wd80 mlX9_41 rfl rfl ⟨nle, nle, nle, nle⟩ nle rfl ?_
  refine C_norm (n1 := 14) (c1 := 13) (s1 := 1293) rfl rfl rfl ?_
  refine C_putR (k := 4) dX9_init_60 clc9 flcX9_42 o_0 ff9_4 (fr9_4 _) o_11.1 rfl (by omega) ?_
  refine C_aload_n dX9_init_63 rfl rfl ?_
  refine C_new dX9_init_64 clc4 wd144 wd145 wd7 rfl (by decide) ⟨nle, nle⟩ ?_
  refine C_norm (n1 := 15) (c1 := 14) (s1 := 1301) rfl rfl rfl ?_
  refine C_dupR dX9_init_67 ?_
  obtain ⟨p5_68, hp5_68, hf⟩ := bdE hf
  refine C_callI (n' := 17) (N' := iN_X4_init (clr (iN_X7_init (clr (iN_X3_init (clr (iN_X6_init (clr (iN_X8_init (clr (iN_X1_init N9) 0 0)) 0 1)) 0 2)) 0 3) 11) 0 4) 14) (As := []) (st := [aR 14, aR 0]) dX9_init_68 (cc_X4_init _ _ o_14 hp5_68) mwX4_init rfl rfl wd147 mlX9_48 rfl rfl ⟨nle, nle, nle, nle⟩ nle rfl ?_
  refine C_norm (n1 := 17) (c1 := 16) (s1 := 1549) rfl rfl rfl ?_
  refine C_putR (k := 5) dX9_init_71 clc9 flcX9_49 o_0 ff9_5 (fr9_5 _) o_14.1 rfl (by omega) ?_
  refine C_aload_n dX9_init_74 rfl rfl ?_
  refine C_new dX9_init_75 clc4 wd144 wd145 wd7 rfl (by decide) ⟨nle, nle⟩ ?_
  refine C_norm (n1 := 18) (c1 := 17) (s1 := 1557) rfl rfl rfl ?_
  refine C_dupR dX9_init_78 ?_
  obtain ⟨p6_79, hp6_79, hf⟩ := bdE hf
  refine C_callI (n' := 20) (N' := iN_X4_init (clr (iN_X4_init (clr (iN_X7_init (clr (iN_X3_init (clr (iN_X6_init (clr (iN_X8_init (clr (iN_X1_init N9) 0 0)) 0 1)) 0 2)) 0 3) 11) 0 4) 14) 0 5) 17) (As := []) (st := [aR 17, aR 0]) dX9_init_79 (cc_X4_init _ _ o_17 hp6_79) mwX4_init rfl rfl wd147 mlX9_48 rfl rfl ⟨nle, nle, nle, nle⟩ nle rfl ?_
  refine C_norm (n1 := 20) (c1 := 19) (s1 := 1805) rfl rfl rfl ?_
  refine C_putR (k := 6) dX9_init_82 clc9 flcX9_53 o_0 ff9_6 (fr9_6 _) o_17.1 rfl (by omega) ?_
  refine C_aload_n dX9_init_85 rfl rfl ?_
  refine C_new dX9_init_86 clc0 wd185 wd186 wd8 rfl (by decide) ⟨nle, nle⟩ ?_
  refine C_norm (n1 := 21) (c1 := 20) (s1 := 1808) rfl rfl rfl ?_
  refine C_dupR dX9_init_89 ?_
  obtain ⟨p7_90, hp7_90, hf⟩ := bdE hf
  refine C_callI (n' := 52) (N' := iN_X0_init (clr (iN_X4_init (clr (iN_X4_init (clr (iN_X7_init (clr (iN_X3_init (clr (iN_X6_init (clr (iN_X8_init (clr (iN_X1_init N9) 0 0)) 0 1)) 0 2)) 0 3) 11) 0 4) 14) 0 5) 17) 0 6)) (As := []) (st := [aR 20, aR 0]) dX9_init_90 (cc_X0_init _ hp7_90) mwX0_init rfl rfl wd188 mlX9_58 rfl rfl ⟨nle, nle, nle, nle⟩ nle rfl ?_
  refine C_norm (n1 := 52) (c1 := 51) (s1 := 4378) rfl rfl rfl ?_
  refine C_putR (k := 7) dX9_init_93 clc9 flcX9_59 o_0 ff9_7 (fr9_7 _) o_20.1 rfl (by omega) ?_
  refine C_aload_n dX9_init_96 rfl rfl ?_
  refine C_iconst dX9_init_97 (v := 2) rfl ?_
  refine C_anew (len := 2) dX9_init_98 wd144 (a_52).2 rfl (a_52).1 nle ⟨nle, nle⟩ ?_
  refine C_norm (n1 := 53) (c1 := 52) (s1 := 4380) rfl rfl rfl ?_
  refine C_putR (k := 8) dX9_init_101 clc9 flcX9_63 o_0 ff9_8 (fr9_8 _) a_52.1 rfl (by omega) ?_
  refine C_aload_n dX9_init_104 rfl rfl ?_
  refine C_iconst dX9_init_105 (v := 2) rfl ?_
  refine C_newa (t := 1) (len := 2) dX9_init_106 (by decide) rfl wd253 (a_53).2 rfl (a_53).1 nle ⟨nle, nle⟩ ?_
  refine C_norm (n1 := 54) (c1 := 53) (s1 := 4382) rfl rfl rfl ?_
  refine C_putR (k := 9) dX9_init_108 clc9 flcX9_67 o_0 ff9_9 (fr9_9 _) a_53.1 rfl (by omega) ?_
  refine C_aload_n dX9_init_111 rfl rfl ?_
  refine C_new dX9_init_112 clc5 wd205 wd206 wd9 rfl (by decide) ⟨nle, nle⟩ ?_
  refine C_norm (n1 := 55) (c1 := 54) (s1 := 4394) rfl rfl rfl ?_
  refine C_dupR dX9_init_115 ?_
  obtain ⟨p8_116, hp8_116, hf⟩ := bdE hf
  refine C_callI (n' := 60) (N' := iN_X5_init (clr (clr (clr (iN_X0_init (clr (iN_X4_init (clr (iN_X4_init (clr (iN_X7_init (clr (iN_X3_init (clr (iN_X6_init (clr (iN_X8_init (clr (iN_X1_init N9) 0 0)) 0 1)) 0 2)) 0 3) 11) 0 4) 14) 0 5) 17) 0 6)) 0 7) 0 8) 0 9) 54) (As := []) (st := [aR 54, aR 0]) dX9_init_116 (cc_X5_init _ _ o_54 hp8_116) mwX5_init rfl rfl wd208 mlX9_73 rfl rfl ⟨nle, nle, nle, nle⟩ nle rfl ?_
  refine C_norm (n1 := 60) (c1 := 59) (s1 := 5594) rfl rfl rfl ?_
  refine C_putR (k := 10) dX9_init_119 clc9 flcX9_74 o_0 ff9_10 (fr9_10 _) o_54.1 rfl (by omega) ?_
  refine C_aload_n dX9_init_122 rfl rfl ?_
  refine C_new dX9_init_123 clc5 wd205 wd206 wd9 rfl (by decide) ⟨nle, nle⟩ ?_
  refine C_norm (n1 := 61) (c1 := 60) (s1 := 5606) rfl rfl rfl ?_
  refine C_dupR dX9_init_126 ?_
  obtain ⟨p9_127, hp9_127, hf⟩ := bdE hf
  refine C_callI (n' := 66) (N' := iN_X5_init (clr (iN_X5_init (clr (clr (clr (iN_X0_init (clr (iN_X4_init (clr (iN_X4_init (clr (iN_X7_init (clr (iN_X3_init (clr (iN_X6_init (clr (iN_X8_init (clr (iN_X1_init N9) 0 0)) 0 1)) 0 2)) 0 3) 11) 0 4) 14) 0 5) 17) 0 6)) 0 7) 0 8) 0 9) 54) 0 10) 60) (As := []) (st := [aR 60, aR 0]) dX9_init_127 (cc_X5_init _ _ o_60 hp9_127) mwX5_init rfl rfl wd208 mlX9_73 rfl rfl ⟨nle, nle, nle, nle⟩ nle rfl ?_
  refine C_norm (n1 := 66) (c1 := 65) (s1 := 6806) rfl rfl rfl ?_
  refine C_putR (k := 11) dX9_init_130 clc9 flcX9_78 o_0 ff9_11 (fr9_11 _) o_60.1 rfl (by omega) ?_
  refine C_aload_n dX9_init_133 rfl rfl ?_
  refine C_new dX9_init_134 clc2 wd254 wd255 wd10 rfl (by decide) ⟨nle, nle⟩ ?_
  refine C_norm (n1 := 67) (c1 := 66) (s1 := 6822) rfl rfl rfl ?_
  refine C_dupR dX9_init_137 ?_
  obtain ⟨p10_138, hp10_138, hf⟩ := bdE hf
  refine C_callI (n' := 77) (N' := iN_X2_init (clr (iN_X5_init (clr (iN_X5_init (clr (clr (clr (iN_X0_init (clr (iN_X4_init (clr (iN_X4_init (clr (iN_X7_init (clr (iN_X3_init (clr (iN_X6_init (clr (iN_X8_init (clr (iN_X1_init N9) 0 0)) 0 1)) 0 2)) 0 3) 11) 0 4) 14) 0 5) 17) 0 6)) 0 7) 0 8) 0 9) 54) 0 10) 60) 0 11)) (As := []) (st := [aR 66, aR 0]) dX9_init_138 (cc_X2_init _ hp10_138) mwX2_init rfl rfl wd257 mlX9_83 rfl rfl ⟨nle, nle, nle, nle⟩ nle rfl ?_
  refine C_norm (n1 := 77) (c1 := 76) (s1 := 67066) rfl rfl rfl ?_
  refine C_putR (k := 12) dX9_init_141 clc9 flcX9_84 o_0 ff9_12 (fr9_12 _) o_66.1 rfl (by omega) ?_
  refine C_aload_n dX9_init_144 rfl rfl ?_
  refine C_sipush dX9_init_145 (v := 240) rfl ?_
  refine C_newa (t := 0) (len := 240) dX9_init_148 (by decide) rfl wd47 (a_77).2 rfl (a_77).1 nle ⟨nle, nle⟩ ?_
  refine C_norm (n1 := 78) (c1 := 77) (s1 := 67306) rfl rfl rfl ?_
  refine C_putR (k := 13) dX9_init_150 clc9 flcX9_88 o_0 ff9_13 (fr9_13 _) a_77.1 rfl (by omega) ?_
  refine C_aload_n dX9_init_153 rfl rfl ?_
  refine C_iconst dX9_init_154 (v := 0) rfl ?_
  obtain ⟨M155, hM155, hf⟩ := ltE hf
  refine C_put (ki := 14) dX9_init_155 cl9 flX9_92 o_0 (Or.inl fz9_14) rfl hM155 ?_
  refine C_aload_n dX9_init_158 rfl rfl ?_
  refine C_iconst dX9_init_159 (v := (-1)) rfl ?_
  obtain ⟨M160, hM160, hf⟩ := ltE hf
  refine C_put (ki := 15) dX9_init_160 cl9 flX9_96 o_0 (Or.inl fz9_15) rfl hM160 ?_
  refine C_aload_n dX9_init_163 rfl rfl ?_
  refine C_iconst dX9_init_164 (v := 1) rfl ?_
  obtain ⟨M165, hM165, hf⟩ := ltE hf
  refine C_put (ki := 16) dX9_init_165 cl9 flX9_99 o_0 (Or.inr ⟨fz9_16, by decide⟩) rfl hM165 ?_
  refine C_aload_n dX9_init_168 rfl rfl ?_
  refine C_iconst dX9_init_169 (v := 1) rfl ?_
  obtain ⟨M170, hM170, hf⟩ := ltE hf
  refine C_put (ki := 17) dX9_init_170 cl9 flX9_103 o_0 (Or.inr ⟨fz9_17, by decide⟩) rfl hM170 ?_
  refine C_aload_n dX9_init_173 rfl rfl ?_
  refine C_getR dX9_init_174 cl9 flX9_42 o_0 ff9_4 (fr9_4 _) o_11.1 ?_ (by omega) rfl
  refine C_bipush dX9_init_177 (v := 40) rfl ?_
  refine C_bipush dX9_init_179 (v := 41) rfl ?_
  obtain ⟨p181, hp181, hf⟩ := bdE hf
  refine C_callV (As := [aI 40, aI 41]) (st := []) dX9_init_181 (cc_X7_addKind _ _ _ _ o_11 (by omega) (by first | rfl | decide) (by first | rfl | decide) hp181) mwX7_addKind mvX7_addKind mlX9_106 cl7 o_11 rfl rfl ⟨nle, nle, nle, nle⟩ nle rfl ?_ (by omega) rfl
  refine C_norm (n1 := 78) (c1 := 77) (s1 := 67306) rfl rfl rfl ?_
  refine C_popI dX9_init_184 ?_
  refine C_iconst dX9_init_185 (v := 0) rfl ?_
  refine C_istore_n dX9_init_186 rfl (by decide) rfl rfl ?_
  refine C_iload_n dX9_init_187 rfl rfl ?_
  refine C_iconst dX9_init_188 (v := 2) rfl ?_
  refine C_icmp_ge dX9_init_189 rfl (fun h => absurd h (by decide)) (fun _ => ?_)
  refine C_aload_n dX9_init_192 rfl rfl ?_
  refine C_getR dX9_init_193 cl9 flX9_63 o_0 ff9_8 (fr9_8 _) a_52.1 ?_ (by omega) rfl
  refine C_iload_n dX9_init_196 rfl rfl ?_
  refine C_new dX9_init_197 clc4 wd144 wd145 wd7 rfl (by decide) ⟨nle, nle⟩ ?_
  refine C_norm (n1 := 79) (c1 := 78) (s1 := 67314) rfl rfl rfl ?_
  refine C_dupR dX9_init_200 ?_
  obtain ⟨p16_201, hp16_201, hf⟩ := bdE hf
  refine C_callI (n' := 81) (N' := iN_X4_init (clr (clr (iN_X2_init (clr (iN_X5_init (clr (iN_X5_init (clr (clr (clr (iN_X0_init (clr (iN_X4_init (clr (iN_X4_init (clr (iN_X7_init (clr (iN_X3_init (clr (iN_X6_init (clr (iN_X8_init (clr (iN_X1_init N9) 0 0)) 0 1)) 0 2)) 0 3) 11) 0 4) 14) 0 5) 17) 0 6)) 0 7) 0 8) 0 9) 54) 0 10) 60) 0 11)) 0 12) 0 13) 78) (As := []) (st := [aR 78, aI 0, aR 52]) dX9_init_201 (cc_X4_init _ _ o_78 hp16_201) mwX4_init rfl rfl wd147 mlX9_48 rfl rfl ⟨nle, nle, nle, nle⟩ nle rfl ?_
  refine C_norm (n1 := 81) (c1 := 80) (s1 := 67562) rfl rfl rfl ?_
  refine C_aastore (i := 0) dX9_init_204 a_52 (by decide) (by decide) rfl o_78 cl4 (by omega) (by omega) ?_
  refine C_iinc dX9_init_205 rfl rfl (show (1 : Int) = w32 (0 + 1) from by decide) (by decide) rfl ?_
  refine C_goto dX9_init_208 rfl ?_
  refine C_iload_n dX9_init_187 rfl rfl ?_
  refine C_iconst dX9_init_188 (v := 2) rfl ?_
  refine C_icmp_ge dX9_init_189 rfl (fun h => absurd h (by decide)) (fun _ => ?_)
  refine C_aload_n dX9_init_192 rfl rfl ?_
  refine C_getR dX9_init_193 cl9 flX9_63 o_0 ff9_8 (fr9_8 _) a_52.1 ?_ (by omega) rfl
  refine C_iload_n dX9_init_196 rfl rfl ?_
  refine C_new dX9_init_197 clc4 wd144 wd145 wd7 rfl (by decide) ⟨nle, nle⟩ ?_
  refine C_norm (n1 := 82) (c1 := 81) (s1 := 67570) rfl rfl rfl ?_
  refine C_dupR dX9_init_200 ?_
  obtain ⟨p17_201, hp17_201, hf⟩ := bdE hf
  refine C_callI (n' := 84) (N' := iN_X4_init (clr (iN_X4_init (clr (clr (iN_X2_init (clr (iN_X5_init (clr (iN_X5_init (clr (clr (clr (iN_X0_init (clr (iN_X4_init (clr (iN_X4_init (clr (iN_X7_init (clr (iN_X3_init (clr (iN_X6_init (clr (iN_X8_init (clr (iN_X1_init N9) 0 0)) 0 1)) 0 2)) 0 3) 11) 0 4) 14) 0 5) 17) 0 6)) 0 7) 0 8) 0 9) 54) 0 10) 60) 0 11)) 0 12) 0 13) 78) 52 0) 81) (As := []) (st := [aR 81, aI 1, aR 52]) dX9_init_201 (cc_X4_init _ _ o_81 hp17_201) mwX4_init rfl rfl wd147 mlX9_48 rfl rfl ⟨nle, nle, nle, nle⟩ nle rfl ?_
  refine C_norm (n1 := 84) (c1 := 83) (s1 := 67818) rfl rfl rfl ?_
  refine C_aastore (i := 1) dX9_init_204 a_52 (by decide) (by decide) rfl o_81 cl4 (by omega) (by omega) ?_
  refine C_iinc dX9_init_205 rfl rfl (show (2 : Int) = w32 (1 + 1) from by decide) (by decide) rfl ?_
  refine C_goto dX9_init_208 rfl ?_
  refine C_iload_n dX9_init_187 rfl rfl ?_
  refine C_iconst dX9_init_188 (v := 2) rfl ?_
  refine C_icmp_ge dX9_init_189 rfl (fun _ => ?_) (fun h => absurd h (by decide))
  cases hf; exact EC_vret dX9_init_211 rfl rfl rfl
def f_X10_init (M : Mem) : Option Mem :=
  lt1 (up M 84 4 (-1)) fun M20 =>
  lt1 (up M20 84 5 (-1)) fun M25 =>
  lt1 (up M25 84 6 (-1)) fun M30 =>
  lt1 (up M30 84 23 (-1)) fun M76 =>
  lt1 (up M76 84 1 1) fun M266 =>
  lt1 (up M266 85 0 40) fun M276 =>
  lt1 (up M276 86 0 41) fun M284 =>
  (f_X10_empties 90 M284).bind fun p289 =>
  some p289
def iN_X10_init (N9 : NM) : NM := (clr (clr (clr (clr (clr (clr (clr (clr (clr (clr (clr (clr (clr (clr (clr (clr (clr (clr (clr (clr (clr (clr (clr (clr (clr (clr (clr (clr N9 84 2) 84 3) 84 8) 84 9) 84 13) 84 14) 84 15) 84 25) 84 27) 84 28) 84 29) 84 30) 84 31) 84 32) 84 33) 84 34) 84 35) 84 36) 84 37) 84 38) 84 41) 84 42) 84 43) 84 44) 84 45) 84 47) 84 48) 84 49)
set_option maxRecDepth 20000 in
theorem cc_X10_init {G : Gl} {N9 : NM} (M : Mem) {res : Mem} (hf : f_X10_init M = some res) : CtC G miX10_init yX10_init 1 28 124550 [aR 84] 85 N9 M none 113 (iN_X10_init N9) res := by
  refine CtC.of (fl := true) (L := [some (aR 84)]) mwX10_init rfl trivial nle ⟨rfl, trivial⟩ (fun _ => rfl) ?_
  unfold f_X10_init at hf
  unfold iN_X10_init
  refine C_aload_n dX10_init_0 rfl rfl ?_
  refine C_objInit dX10_init_1 wd1320 wd31 wd32 rfl ⟨nle, nle⟩ ?_
  refine C_aload_n dX10_init_4 rfl rfl ?_
  refine C_iconst dX10_init_5 (v := 4) rfl ?_
  refine C_newa (t := 0) (len := 4) dX10_init_6 (by decide) rfl wd47 (a_85).2 rfl (a_85).1 nle ⟨nle, nle⟩ ?_
  refine C_norm (n1 := 86) (c1 := 1) (s1 := 4) rfl rfl rfl ?_
  refine C_putR (k := 2) dX10_init_8 clc10 flcX10_7 o_84 ff10_2 (fr10_2 _) a_85.1 rfl (by omega) ?_
  refine C_aload_n dX10_init_11 rfl rfl ?_
  refine C_iconst dX10_init_12 (v := 4) rfl ?_
  refine C_newa (t := 0) (len := 4) dX10_init_13 (by decide) rfl wd47 (a_86).2 rfl (a_86).1 nle ⟨nle, nle⟩ ?_
  refine C_norm (n1 := 87) (c1 := 2) (s1 := 8) rfl rfl rfl ?_
  refine C_putR (k := 3) dX10_init_15 clc10 flcX10_13 o_84 ff10_3 (fr10_3 _) a_86.1 rfl (by omega) ?_
  refine C_aload_n dX10_init_18 rfl rfl ?_
  refine C_iconst dX10_init_19 (v := (-1)) rfl ?_
  obtain ⟨M20, hM20, hf⟩ := ltE hf
  refine C_put (ki := 4) dX10_init_20 cl10 flX10_16 o_84 (Or.inl fz10_4) rfl hM20 ?_
  refine C_aload_n dX10_init_23 rfl rfl ?_
  refine C_iconst dX10_init_24 (v := (-1)) rfl ?_
  obtain ⟨M25, hM25, hf⟩ := ltE hf
  refine C_put (ki := 5) dX10_init_25 cl10 flX10_20 o_84 (Or.inl fz10_5) rfl hM25 ?_
  refine C_aload_n dX10_init_28 rfl rfl ?_
  refine C_iconst dX10_init_29 (v := (-1)) rfl ?_
  obtain ⟨M30, hM30, hf⟩ := ltE hf
  refine C_put (ki := 6) dX10_init_30 cl10 flX10_23 o_84 (Or.inl fz10_6) rfl hM30 ?_
  refine C_aload_n dX10_init_33 rfl rfl ?_
  refine C_iconst dX10_init_34 (v := 4) rfl ?_
  refine C_newa (t := 0) (len := 4) dX10_init_35 (by decide) rfl wd47 (a_87).2 rfl (a_87).1 nle ⟨nle, nle⟩ ?_
  refine C_norm (n1 := 88) (c1 := 3) (s1 := 12) rfl rfl rfl ?_
  refine C_putR (k := 8) dX10_init_37 clc10 flcX10_26 o_84 ff10_8 (fr10_8 _) a_87.1 rfl (by omega) ?_
  refine C_aload_n dX10_init_40 rfl rfl ?_
  refine C_iconst dX10_init_41 (v := 4) rfl ?_
  refine C_newa (t := 0) (len := 4) dX10_init_42 (by decide) rfl wd47 (a_88).2 rfl (a_88).1 nle ⟨nle, nle⟩ ?_
  refine C_norm (n1 := 89) (c1 := 4) (s1 := 16) rfl rfl rfl ?_
  refine C_putR (k := 9) dX10_init_44 clc10 flcX10_29 o_84 ff10_9 (fr10_9 _) a_88.1 rfl (by omega) ?_
  refine C_aload_n dX10_init_47 rfl rfl ?_
  refine C_sipush dX10_init_48 (v := 254) rfl ?_
  refine C_newa (t := 0) (len := 254) dX10_init_51 (by decide) rfl wd47 (a_89).2 rfl (a_89).1 nle ⟨nle, nle⟩ ?_
  refine C_norm (n1 := 90) (c1 := 5) (s1 := 270) rfl rfl rfl ?_
  refine C_putR (k := 13) dX10_init_53 clc10 flcX10_32 o_84 ff10_13 (fr10_13 _) a_89.1 rfl (by omega) ?_
  refine C_aload_n dX10_init_56 rfl rfl ?_
  refine C_sipush dX10_init_57 (v := 254) rfl ?_
  refine C_newa (t := 0) (len := 254) dX10_init_60 (by decide) rfl wd47 (a_90).2 rfl (a_90).1 nle ⟨nle, nle⟩ ?_
  refine C_norm (n1 := 91) (c1 := 6) (s1 := 524) rfl rfl rfl ?_
  refine C_putR (k := 14) dX10_init_62 clc10 flcX10_35 o_84 ff10_14 (fr10_14 _) a_90.1 rfl (by omega) ?_
  refine C_aload_n dX10_init_65 rfl rfl ?_
  refine C_sipush dX10_init_66 (v := 600) rfl ?_
  refine C_newa (t := 2) (len := 600) dX10_init_69 (by decide) rfl wd782 (a_91).2 rfl (a_91).1 nle ⟨nle, nle⟩ ?_
  refine C_norm (n1 := 92) (c1 := 7) (s1 := 1124) rfl rfl rfl ?_
  refine C_putR (k := 15) dX10_init_71 clc10 flcX10_38 o_84 ff10_15 (fr10_15 _) a_91.1 rfl (by omega) ?_
  refine C_aload_n dX10_init_74 rfl rfl ?_
  refine C_iconst dX10_init_75 (v := (-1)) rfl ?_
  obtain ⟨M76, hM76, hf⟩ := ltE hf
  refine C_put (ki := 23) dX10_init_76 cl10 flX10_42 o_84 (Or.inl fz10_23) rfl hM76 ?_
  refine C_aload_n dX10_init_79 rfl rfl ?_
  refine C_sipush dX10_init_80 (v := 240) rfl ?_
  refine C_newa (t := 0) (len := 240) dX10_init_83 (by decide) rfl wd47 (a_92).2 rfl (a_92).1 nle ⟨nle, nle⟩ ?_
  refine C_norm (n1 := 93) (c1 := 8) (s1 := 1364) rfl rfl rfl ?_
  refine C_putR (k := 25) dX10_init_85 clc10 flcX10_45 o_84 ff10_25 (fr10_25 _) a_92.1 rfl (by omega) ?_
  refine C_aload_n dX10_init_88 rfl rfl ?_
  refine C_sipush dX10_init_89 (v := 240) rfl ?_
  refine C_newa (t := 0) (len := 240) dX10_init_92 (by decide) rfl wd47 (a_93).2 rfl (a_93).1 nle ⟨nle, nle⟩ ?_
  refine C_norm (n1 := 94) (c1 := 9) (s1 := 1604) rfl rfl rfl ?_
  refine C_putR (k := 27) dX10_init_94 clc10 flcX10_48 o_84 ff10_27 (fr10_27 _) a_93.1 rfl (by omega) ?_
  refine C_aload_n dX10_init_97 rfl rfl ?_
  refine C_sipush dX10_init_98 (v := 240) rfl ?_
  refine C_newa (t := 0) (len := 240) dX10_init_101 (by decide) rfl wd47 (a_94).2 rfl (a_94).1 nle ⟨nle, nle⟩ ?_
  refine C_norm (n1 := 95) (c1 := 10) (s1 := 1844) rfl rfl rfl ?_
  refine C_putR (k := 28) dX10_init_103 clc10 flcX10_51 o_84 ff10_28 (fr10_28 _) a_94.1 rfl (by omega) ?_
  refine C_aload_n dX10_init_106 rfl rfl ?_
  refine C_sipush dX10_init_107 (v := 240) rfl ?_
  refine C_newa (t := 1) (len := 240) dX10_init_110 (by decide) rfl wd253 (a_95).2 rfl (a_95).1 nle ⟨nle, nle⟩ ?_
  refine C_norm (n1 := 96) (c1 := 11) (s1 := 2084) rfl rfl rfl ?_
  refine C_putR (k := 29) dX10_init_112 clc10 flcX10_54 o_84 ff10_29 (fr10_29 _) a_95.1 rfl (by omega) ?_
  refine C_aload_n dX10_init_115 rfl rfl ?_
  refine C_sipush dX10_init_116 (v := 240) rfl ?_
  refine C_newa (t := 0) (len := 240) dX10_init_119 (by decide) rfl wd47 (a_96).2 rfl (a_96).1 nle ⟨nle, nle⟩ ?_
  refine C_norm (n1 := 97) (c1 := 12) (s1 := 2324) rfl rfl rfl ?_
  refine C_putR (k := 30) dX10_init_121 clc10 flcX10_58 o_84 ff10_30 (fr10_30 _) a_96.1 rfl (by omega) ?_
  refine C_aload_n dX10_init_124 rfl rfl ?_
  refine C_sipush dX10_init_125 (v := 240) rfl ?_
  refine C_newa (t := 0) (len := 240) dX10_init_128 (by decide) rfl wd47 (a_97).2 rfl (a_97).1 nle ⟨nle, nle⟩ ?_
  refine C_norm (n1 := 98) (c1 := 13) (s1 := 2564) rfl rfl rfl ?_
  refine C_putR (k := 31) dX10_init_130 clc10 flcX10_61 o_84 ff10_31 (fr10_31 _) a_97.1 rfl (by omega) ?_
  refine C_aload_n dX10_init_133 rfl rfl ?_
  refine C_ldcI dX10_init_134 wd1321 (v := 58081) rfl ?_
  refine C_newa (t := 0) (len := 58081) dX10_init_136 (by decide) rfl wd47 (a_98).2 rfl (a_98).1 nle ⟨nle, nle⟩ ?_
  refine C_norm (n1 := 99) (c1 := 14) (s1 := 60645) rfl rfl rfl ?_
  refine C_putR (k := 32) dX10_init_138 clc10 flcX10_65 o_84 ff10_32 (fr10_32 _) a_98.1 rfl (by omega) ?_
  refine C_aload_n dX10_init_141 rfl rfl ?_
  refine C_ldcI dX10_init_142 wd1321 (v := 58081) rfl ?_
  refine C_newa (t := 0) (len := 58081) dX10_init_144 (by decide) rfl wd47 (a_99).2 rfl (a_99).1 nle ⟨nle, nle⟩ ?_
  refine C_norm (n1 := 100) (c1 := 15) (s1 := 118726) rfl rfl rfl ?_
  refine C_putR (k := 33) dX10_init_146 clc10 flcX10_68 o_84 ff10_33 (fr10_33 _) a_99.1 rfl (by omega) ?_
  refine C_aload_n dX10_init_149 rfl rfl ?_
  refine C_sipush dX10_init_150 (v := 240) rfl ?_
  refine C_newa (t := 0) (len := 240) dX10_init_153 (by decide) rfl wd47 (a_100).2 rfl (a_100).1 nle ⟨nle, nle⟩ ?_
  refine C_norm (n1 := 101) (c1 := 16) (s1 := 118966) rfl rfl rfl ?_
  refine C_putR (k := 34) dX10_init_155 clc10 flcX10_71 o_84 ff10_34 (fr10_34 _) a_100.1 rfl (by omega) ?_
  refine C_aload_n dX10_init_158 rfl rfl ?_
  refine C_sipush dX10_init_159 (v := 240) rfl ?_
  refine C_newa (t := 0) (len := 240) dX10_init_162 (by decide) rfl wd47 (a_101).2 rfl (a_101).1 nle ⟨nle, nle⟩ ?_
  refine C_norm (n1 := 102) (c1 := 17) (s1 := 119206) rfl rfl rfl ?_
  refine C_putR (k := 35) dX10_init_164 clc10 flcX10_74 o_84 ff10_35 (fr10_35 _) a_101.1 rfl (by omega) ?_
  refine C_aload_n dX10_init_167 rfl rfl ?_
  refine C_sipush dX10_init_168 (v := 500) rfl ?_
  refine C_newa (t := 0) (len := 500) dX10_init_171 (by decide) rfl wd47 (a_102).2 rfl (a_102).1 nle ⟨nle, nle⟩ ?_
  refine C_norm (n1 := 103) (c1 := 18) (s1 := 119706) rfl rfl rfl ?_
  refine C_putR (k := 36) dX10_init_173 clc10 flcX10_77 o_84 ff10_36 (fr10_36 _) a_102.1 rfl (by omega) ?_
  refine C_aload_n dX10_init_176 rfl rfl ?_
  refine C_sipush dX10_init_177 (v := 500) rfl ?_
  refine C_newa (t := 0) (len := 500) dX10_init_180 (by decide) rfl wd47 (a_103).2 rfl (a_103).1 nle ⟨nle, nle⟩ ?_
  refine C_norm (n1 := 104) (c1 := 19) (s1 := 120206) rfl rfl rfl ?_
  refine C_putR (k := 37) dX10_init_182 clc10 flcX10_80 o_84 ff10_37 (fr10_37 _) a_103.1 rfl (by omega) ?_
  refine C_aload_n dX10_init_185 rfl rfl ?_
  refine C_sipush dX10_init_186 (v := 240) rfl ?_
  refine C_newa (t := 0) (len := 240) dX10_init_189 (by decide) rfl wd47 (a_104).2 rfl (a_104).1 nle ⟨nle, nle⟩ ?_
  refine C_norm (n1 := 105) (c1 := 20) (s1 := 120446) rfl rfl rfl ?_
  refine C_putR (k := 38) dX10_init_191 clc10 flcX10_83 o_84 ff10_38 (fr10_38 _) a_104.1 rfl (by omega) ?_
  refine C_aload_n dX10_init_194 rfl rfl ?_
  refine C_sipush dX10_init_195 (v := 200) rfl ?_
  refine C_newa (t := 0) (len := 200) dX10_init_198 (by decide) rfl wd47 (a_105).2 rfl (a_105).1 nle ⟨nle, nle⟩ ?_
  refine C_norm (n1 := 106) (c1 := 21) (s1 := 120646) rfl rfl rfl ?_
  refine C_putR (k := 41) dX10_init_200 clc10 flcX10_86 o_84 ff10_41 (fr10_41 _) a_105.1 rfl (by omega) ?_
  refine C_aload_n dX10_init_203 rfl rfl ?_
  refine C_sipush dX10_init_204 (v := 200) rfl ?_
  refine C_newa (t := 0) (len := 200) dX10_init_207 (by decide) rfl wd47 (a_106).2 rfl (a_106).1 nle ⟨nle, nle⟩ ?_
  refine C_norm (n1 := 107) (c1 := 22) (s1 := 120846) rfl rfl rfl ?_
  refine C_putR (k := 42) dX10_init_209 clc10 flcX10_89 o_84 ff10_42 (fr10_42 _) a_106.1 rfl (by omega) ?_
  refine C_aload_n dX10_init_212 rfl rfl ?_
  refine C_sipush dX10_init_213 (v := 200) rfl ?_
  refine C_newa (t := 0) (len := 200) dX10_init_216 (by decide) rfl wd47 (a_107).2 rfl (a_107).1 nle ⟨nle, nle⟩ ?_
  refine C_norm (n1 := 108) (c1 := 23) (s1 := 121046) rfl rfl rfl ?_
  refine C_putR (k := 43) dX10_init_218 clc10 flcX10_92 o_84 ff10_43 (fr10_43 _) a_107.1 rfl (by omega) ?_
  refine C_aload_n dX10_init_221 rfl rfl ?_
  refine C_sipush dX10_init_222 (v := 200) rfl ?_
  refine C_newa (t := 0) (len := 200) dX10_init_225 (by decide) rfl wd47 (a_108).2 rfl (a_108).1 nle ⟨nle, nle⟩ ?_
  refine C_norm (n1 := 109) (c1 := 24) (s1 := 121246) rfl rfl rfl ?_
  refine C_putR (k := 44) dX10_init_227 clc10 flcX10_95 o_84 ff10_44 (fr10_44 _) a_108.1 rfl (by omega) ?_
  refine C_aload_n dX10_init_230 rfl rfl ?_
  refine C_sipush dX10_init_231 (v := 254) rfl ?_
  refine C_newa (t := 0) (len := 254) dX10_init_234 (by decide) rfl wd47 (a_109).2 rfl (a_109).1 nle ⟨nle, nle⟩ ?_
  refine C_norm (n1 := 110) (c1 := 25) (s1 := 121500) rfl rfl rfl ?_
  refine C_putR (k := 45) dX10_init_236 clc10 flcX10_98 o_84 ff10_45 (fr10_45 _) a_109.1 rfl (by omega) ?_
  refine C_aload_n dX10_init_239 rfl rfl ?_
  refine C_sipush dX10_init_240 (v := 2540) rfl ?_
  refine C_newa (t := 0) (len := 2540) dX10_init_243 (by decide) rfl wd47 (a_110).2 rfl (a_110).1 nle ⟨nle, nle⟩ ?_
  refine C_norm (n1 := 111) (c1 := 26) (s1 := 124040) rfl rfl rfl ?_
  refine C_putR (k := 47) dX10_init_245 clc10 flcX10_101 o_84 ff10_47 (fr10_47 _) a_110.1 rfl (by omega) ?_
  refine C_aload_n dX10_init_248 rfl rfl ?_
  refine C_sipush dX10_init_249 (v := 508) rfl ?_
  refine C_newa (t := 0) (len := 508) dX10_init_252 (by decide) rfl wd47 (a_111).2 rfl (a_111).1 nle ⟨nle, nle⟩ ?_
  refine C_norm (n1 := 112) (c1 := 27) (s1 := 124548) rfl rfl rfl ?_
  refine C_putR (k := 48) dX10_init_254 clc10 flcX10_104 o_84 ff10_48 (fr10_48 _) a_111.1 rfl (by omega) ?_
  refine C_aload_n dX10_init_257 rfl rfl ?_
  refine C_iconst dX10_init_258 (v := 2) rfl ?_
  refine C_newa (t := 1) (len := 2) dX10_init_259 (by decide) rfl wd253 (a_112).2 rfl (a_112).1 nle ⟨nle, nle⟩ ?_
  refine C_norm (n1 := 113) (c1 := 28) (s1 := 124550) rfl rfl rfl ?_
  refine C_putR (k := 49) dX10_init_261 clc10 flcX10_107 o_84 ff10_49 (fr10_49 _) a_112.1 rfl (by omega) ?_
  refine C_aload_n dX10_init_264 rfl rfl ?_
  refine C_iconst dX10_init_265 (v := 1) rfl ?_
  obtain ⟨M266, hM266, hf⟩ := ltE hf
  refine C_put (ki := 1) dX10_init_266 cl10 flX10_110 o_84 (Or.inl fz10_1) rfl hM266 ?_
  refine C_aload_n dX10_init_269 rfl rfl ?_
  refine C_getR dX10_init_270 cl10 flX10_7 o_84 ff10_2 (fr10_2 _) a_85.1 ?_ (by omega) rfl
  refine C_iconst dX10_init_273 (v := 0) rfl ?_
  refine C_bipush dX10_init_274 (v := 40) rfl ?_
  obtain ⟨M276, hM276, hf⟩ := ltE hf
  refine C_iastore dX10_init_276 a_85 (by decide) (by decide) hM276 ?_
  refine C_aload_n dX10_init_277 rfl rfl ?_
  refine C_getR dX10_init_278 cl10 flX10_13 o_84 ff10_3 (fr10_3 _) a_86.1 ?_ (by omega) rfl
  refine C_iconst dX10_init_281 (v := 0) rfl ?_
  refine C_bipush dX10_init_282 (v := 41) rfl ?_
  obtain ⟨M284, hM284, hf⟩ := ltE hf
  refine C_iastore dX10_init_284 a_86 (by decide) (by decide) hM284 ?_
  refine C_aload_n dX10_init_285 rfl rfl ?_
  refine C_getR dX10_init_286 cl10 flX10_35 o_84 ff10_14 (fr10_14 _) a_90.1 ?_ (by omega) rfl
  obtain ⟨p289, hp289, hf⟩ := bdE hf
  refine C_callS (As := [aR 90]) (st := []) dX10_init_289 (cc_X10_empties _ _ a_90.i (by omega) hp289) mwX10_empties msX10_empties wd1322 rfl ⟨nle, nle, nle, nle⟩ nle rfl ?_ rfl
  refine C_norm (n1 := 113) (c1 := 28) (s1 := 124550) rfl rfl rfl ?_
  cases hf; exact EC_vret dX10_init_292 rfl rfl rfl
