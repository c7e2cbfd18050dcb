/-! ===== length() and charAt(int) of the string constants ===== -/
section STRS
variable {G : Gl} {fl : Bool} {R : Room} {mi mi2 : MI} {Z : ZT} {cells slots pc : Nat} {L : List (Option AV)} {st st0 : List AV} {M M' : Mem} {r : Option AV} {As : List AV} {y : MethodName} {d index n : Nat}
theorem En.str {s : State} (h : En G s) {j : Nat} (hj : j < NS) : vk_S 1 [lenT.getD j 0] [bytT.getD j []] (fun _ => G.2.2.2.1 (200 + j)) (fun _ => G.2.2.2.1 (300 + j)) (fre G) s s.heap := h.2.2.2.2.2.1 j hj
theorem R_callVs {j : Nat} (hd : decode mi.2.1 pc = .ok (.invokevirtual index, 3)) (hc : Ct G mi2 y d (aR (200 + j) :: As) M r M') (hw : MW mi2 y n) (hv : MV y) (hml : Cond.methodLink mi.1 index y ∈ lw_tbl) (hj : j < NS) (hyC : y.cls = "java/lang/String") (hn : As.length = n)
    (hR : d + 1 ≤ R.frames ∧ 8 + (mi2.2.2.1 + 11) + 37 * d ≤ R.locals ∧ cells ≤ R.cells ∧ slots ≤ R.slots) (hst : 2 * st.length ≤ 8) (hst0 : As.reverse ++ aR (200 + j) :: st = st0) (k : Run G fl R mi Z cells slots (pc + 3) L (r.toList ++ st) M') : Run G fl R mi Z cells slots pc L st0 M := by
  intro p l e s0 s m args below meth c H locs ls vs CC D hl hs hW hS
  obtain ⟨hx, hb, hmx, hr, hlk, hown, hst', hxt, hE⟩ := id CC
  subst hst0
  obtain ⟨us, ws, rfl, hu, hs1, hlu⟩ := Rs_stk hs
  obtain ⟨vs2, rfl, hs2⟩ := Rs_ref hs1
  have hTB := hE.1
  have hrec := vk_recv (i := 0) (hE.str hj) (by omega) hS
  have hpre : PreV s H y.cls (G.2.2.2.1 (200 + j)) (PcR G (aR (200 + j) :: As) M) us := ⟨PcR.blind _ _ _, by rw [hyC]; exact hrec, pre_ok hE hW hS (show Rs G.2.2.2.1 (aR (200 + j) :: As) (Value.ref (G.2.2.2.1 (200 + j)) :: us) from ⟨rfl, hu⟩)⟩
  exact back_ok (a := (Value.ref (G.2.2.2.1 (200 + j)) :: us).toArray) CC D hl hs2 hS (va_runV (Ts := []) ⟨hx, hb, hmx, hown, fun _ h => nomatch h⟩ (hc l hst') ⟨callB_mk hTB hw ⟨hR.1, hR.2.1⟩ hml, hTB.use hv.1 rfl, hTB.use hv.2 rfl⟩ hpre rfl (hlu.trans hn) hl.1 rfl (lv_room (cat_le hs2 hst)) hd ⟨hR.2.2.1, hR.2.2.2⟩) k
theorem R_strVal {j : Nat} (hd : decode mi.2.1 pc = .ok (.getfield index, 3)) (hlk : Cond.fieldLink mi.1 index "java/lang/String" "value" "[B" ∈ lw_tbl) (hj : j < NS) (k : Run G fl R mi Z cells slots (pc + 3) L (aR (300 + j) :: st) M) : Run G fl R mi Z cells slots pc L (aR (200 + j) :: st) M := by
  intro p l e s0 s m args below meth c H locs ls vs CC D hl hs hW hS
  obtain ⟨hx, hb, hmx, hr, hlk2, hown, hst', hxt, hE⟩ := id CC
  obtain ⟨vs1, rfl, hs1⟩ := Rs_ref hs
  obtain ⟨h1, h2, h3, h4⟩ := (hE.str hj).1 0 (by omega)
  refine vk_getf hx hb h3 hS hown (hE.1.use hlk rfl) (fun _ h => h) hd ?_
  exact k p l e s0 s m args below meth c H locs ls _ CC D hl ⟨rfl, hs1⟩ hW hS
theorem R_strCod {j : Nat} (hd : decode mi.2.1 pc = .ok (.getfield index, 3)) (hlk : Cond.fieldLink mi.1 index "java/lang/String" "coder" "B" ∈ lw_tbl) (hj : j < NS) (k : Run G fl R mi Z cells slots (pc + 3) L (aI 0 :: st) M) : Run G fl R mi Z cells slots pc L (aR (200 + j) :: st) M := by
  intro p l e s0 s m args below meth c H locs ls vs CC D hl hs hW hS
  obtain ⟨hx, hb, hmx, hr, hlk2, hown, hst', hxt, hE⟩ := id CC
  obtain ⟨vs1, rfl, hs1⟩ := Rs_ref hs
  obtain ⟨h1, h2, h3, h4⟩ := (hE.str hj).1 0 (by omega)
  refine vk_getf hx hb h2 hS hown (hE.1.use hlk rfl) (fun _ h => h) hd ?_
  exact k p l e s0 s m args below meth c H locs ls _ CC D hl ⟨rfl, hs1⟩ hW hS
theorem len_small : ∀ j, j < NS → lenT.getD j 0 < 1000 ∧ (bytT.getD j []).length = lenT.getD j 0 := by decide +kernel
theorem R_strLen {j : Nat} {v : Int} (hd : decode mi.2.1 pc = .ok (.arraylength, 1)) (hj : j < NS) (hv : v = (lenT.getD j 0 : Nat)) (k : Run G fl R mi Z cells slots (pc + 1) L (aI v :: st) M) : Run G fl R mi Z cells slots pc L (aR (300 + j) :: st) M := by
  intro p l e s0 s m args below meth c H locs ls vs CC D hl hs hW hS
  obtain ⟨hx, hb, hmx, hr, hlk2, hown, hst', hxt, hE⟩ := id CC
  obtain ⟨vs1, rfl, hs1⟩ := Rs_ref hs
  obtain ⟨h1, h2, h3, h4⟩ := (hE.str hj).1 0 (by omega)
  refine va_tlen hx hb h4 hS rfl hd ?_
  refine k p l e s0 s m args below meth c H locs ls _ CC D hl ⟨?_, hs1⟩ hW hS
  show (nI (lenT.getD j 0)).toInt = v
  rw [nI_toInt (by have := (len_small j hj).1; omega), hv]
theorem R_strByte {j : Nat} {i v : Int} (hd : decode mi.2.1 pc = .ok (.baload, 1)) (hj : j < NS) (h0 : 0 ≤ i) (h1 : i < (lenT.getD j 0 : Nat)) (hv : v = ((bytT.getD j []).getD i.toNat 0).toInt) (k : Run G fl R mi Z cells slots (pc + 1) L (aI v :: st) M) : Run G fl R mi Z cells slots pc L (aI i :: aR (300 + j) :: st) M := by
  intro p l e s0 s m args below meth c H locs ls vs CC D hl hs hW hS
  obtain ⟨hx, hb, hmx, hr, hlk2, hown, hst', hxt, hE⟩ := id CC
  obtain ⟨x, vs0, rfl, hxv, hs0⟩ := Rs_int hs
  obtain ⟨vs1, rfl, hs1⟩ := Rs_ref hs0
  obtain ⟨_, h2, h3, h4⟩ := (hE.str hj).1 0 (by omega)
  refine va_tb hx hb h4 hS (vp_in_int hxv h0 h1) rfl hd ?_
  refine k p l e s0 s m args below meth c H locs ls _ CC D hl ⟨?_, hs1⟩ hW hS
  show ((bytT.getD j []).getD x.toNatClampNeg 0).toInt = v
  have : x.toNatClampNeg = i.toNat := by have := clamp_int hxv h0; omega
  rw [this, hv]
theorem R_compact (hd : decode mi.2.1 pc = .ok (.getstatic index, 3)) (hlk : Cond.fieldLink mi.1 index "java/lang/String" "COMPACT_STRINGS" "Z" ∈ lw_tbl) (k : Run G fl R mi Z cells slots (pc + 3) L (aI 1 :: st) M) : Run G fl R mi Z cells slots pc L st M := by
  intro p l e s0 s m args below meth c H locs ls vs CC D hl hs hW hS
  obtain ⟨hx, hb, hmx, hr, hlk2, hown, hst', hxt, hE⟩ := id CC
  refine va_gets hx hb hE.2.2.2.2.2.2.2.2.1 hS hown (hE.1.use hlk rfl) (fun _ h => h) hd ?_
  exact k p l e s0 s m args below meth c H locs ls _ CC D hl ⟨rfl, hs⟩ hW hS
theorem R_format (hd : decode mi.2.1 pc = .ok (.getstatic index, 3)) (hlk : Cond.fieldLink mi.1 index "jdk/internal/util/Preconditions" "SIOOBE_FORMATTER" "Ljava/util/function/BiFunction;" ∈ lw_tbl) (k : ∀ v : Value, v.category = 1 → Run G fl R mi Z cells slots (pc + 3) L (aV v :: st) M) : Run G fl R mi Z cells slots pc L st M := by
  intro p l e s0 s m args below meth c H locs ls vs CC D hl hs hW hS
  obtain ⟨hx, hb, hmx, hr, hlk2, hown, hst', hxt, hE⟩ := id CC
  rcases hE.2.2.2.2.2.2.2.2.2.1 with hz | ⟨t, hz⟩
  · refine va_gets hx hb hz hS hown (hE.1.use hlk rfl) (fun _ h => h) hd ?_
    exact k .null rfl p l e s0 s m args below meth c H locs ls _ CC D hl ⟨rfl, hs⟩ hW hS
  · refine va_gets hx hb hz hS hown (hE.1.use hlk rfl) (fun _ h => h) hd ?_
    exact k (.ref t) rfl p l e s0 s m args below meth c H locs ls _ CC D hl ⟨rfl, hs⟩ hW hS
theorem R_i2c {a : Int} (hd : decode mi.2.1 pc = .ok (.i2c, 1)) (h0 : 0 ≤ a) (h1 : a < 65536) (k : Run G fl R mi Z cells slots (pc + 1) L (aI a :: st) M) : Run G fl R mi Z cells slots pc L (aI a :: st) M := by
  intro p l e s0 s m args below meth c H locs ls vs CC D hl hs hW hS
  obtain ⟨x, vs2, rfl, hx, hs1⟩ := Rs_int hs
  refine lv_i2c CC.1 CC.2.1 hd rfl ?_
  refine k p l e s0 s m args below meth c H locs ls _ CC D hl ⟨?_, hs1⟩ hW hS
  show ((x.toUInt32 % 65536).toInt32).toInt = a
  have hxn : x = nI a.toNat := (i_eq hx (by rw [nI_toInt (by omega)]; omega)).mpr rfl
  rw [pk_char, hxn, pk_tn (by omega), Nat.mod_eq_of_lt (by omega), nI_toInt (by omega)]
  omega
theorem E_nret {a : Int} {ty : FieldType} (hd : decode mi.2.1 pc = .ok (.ireturn, 1)) (hrt : mi.2.2.2.1 = some ty) (hnar : ∀ x : Int32, x.toInt = a → narrow ty (.int x) = .int x) (hr : r = some (aI a)) (hM : M' = M) : Run G false R mi (ZP G r M') 0 0 pc L [aI a] M := by
  intro p l e s0 s m args below meth c H locs ls vs CC D hl hs hW hS
  obtain ⟨hx, hb, hmx, hrr, hlk, hown, hst', hxt, hE⟩ := id CC
  obtain ⟨x, vs1, rfl, hxv, hs1⟩ := Rs_int hs
  have := Rs_nil hs1
  subst this
  have hD : s = s0 := D
  subst hD; subst hr; subst hM
  exact W.zret hx hb (hrr.trans hrt) (hnar x hxv) (fun t ht hWm => ⟨⟨_, rfl, hxv, by rw [ht]; exact hW⟩, hS.F ht⟩) hS.fr hd hlk
theorem R_popV {v : Value} (hv : v.category = 1) (hd : decode mi.2.1 pc = .ok (.pop, 1)) (k : Run G fl R mi Z cells slots (pc + 1) L st M) : Run G fl R mi Z cells slots pc L (aV v :: st) M := by
  intro p l e s0 s m args below meth c H locs ls vs C D hl hs hW hS
  obtain ⟨w, vs2, rfl, hw, hs9⟩ := Rs_cons hs
  have : w = v := hw
  subst this
  refine lv_pop C.1 C.2.1 hd hv ?_
  exact k p l e s0 s m args below meth c H locs ls _ C D hl hs9 hW hS
end STRS
section STRC
variable {G : Gl} {M : Mem}
theorem ct_jsCoder {j : Nat} (hj : j < NS) : Ct G mijsCoder yjsCoder 0 [aR (200 + j)] M (some (aI 0)) M := by
  refine Ct.of (L := [some (aR (200 + j))]) mwjsCoder rfl trivial nle ⟨rfl, trivial⟩ ?_
  refine R_compact djsCoder_0 jfjs_38 ?_
  refine R_if_eq djsCoder_3 rfl (fun h => absurd h (by decide)) (fun _ => ?_)
  refine R_aload_n djsCoder_6 rfl rfl ?_
  refine R_strCod djsCoder_7 jfjs_15 hj ?_
  refine R_goto djsCoder_10 rfl ?_
  exact E_nret djsCoder_14 rfl (fun x hx => by have : x = 0 := (i_eq hx i_z).mpr rfl; subst this; rfl) rfl rfl
theorem ct_jsLat {j : Nat} (hj : j < NS) : Ct G mijsLat yjsLat 0 [aR (200 + j)] M (some (aI 1)) M := by
  refine Ct.of (L := [some (aR (200 + j))]) mwjsLat rfl trivial nle ⟨rfl, trivial⟩ ?_
  refine R_compact djsLat_0 jfjs_38 ?_
  refine R_if_eq djsLat_3 rfl (fun h => absurd h (by decide)) (fun _ => ?_)
  refine R_aload_n djsLat_6 rfl rfl ?_
  refine R_strCod djsLat_7 jfjs_15 hj ?_
  refine R_if_ne djsLat_10 rfl (fun h => absurd rfl h) (fun _ => ?_)
  refine R_iconst djsLat_13 (v := 1) rfl ?_
  refine R_goto djsLat_14 rfl ?_
  exact E_zret djsLat_18 rfl (Or.inr rfl) rfl rfl
theorem ct_jsLen {j : Nat} (hj : j < NS) : Ct G mijsLen yjsLen 1 [aR (200 + j)] M (some (aI (lenT.getD j 0 : Nat))) M := by
  refine Ct.of (L := [some (aR (200 + j))]) mwjsLen rfl trivial nle ⟨rfl, trivial⟩ ?_
  refine R_aload_n djsLen_0 rfl rfl ?_
  refine R_strVal djsLen_1 jfjs_9 hj ?_
  refine R_strLen djsLen_4 hj rfl ?_
  refine R_aload_n djsLen_5 rfl rfl ?_
  refine R_callVs (As := []) (st := [aI (lenT.getD j 0 : Nat)]) djsLen_6 (ct_jsCoder hj) mwjsCoder mvjsCoder wd820 hj rfl rfl ⟨nle, nle, nle, nle⟩ nle rfl ?_
  refine R_ishr djsLen_9 (v := (lenT.getD j 0 : Nat)) ?_ ?_
  · unfold isr
    rw [show (Int32.ofInt 0 &&& 31) = (0 : Int32) &&& 31 from rfl, sb_shr0]
    exact (ofInt_toInt (by have := (len_small j hj).1; unfold inR; omega)).symm
  · exact E_iret djsLen_10 rfl rfl rfl
theorem ct_jpChk {i n : Int} {v : Value} (h0 : 0 ≤ i) (h1 : i < n) (hv : v.category = 1) : Ct G mijpChk yjpChk 0 [aI i, aI n, aV v] M (some (aI i)) M := by
  intro l hst
  refine Met.ofW (cc := mijpChk.2.1) (maxL := mijpChk.2.2.1) (ret := mijpChk.2.2.2.1) mwjpChk.2.2.2.1 rfl ?_
  intro p e s m args below meth c s₁ B hml hP
  obtain ⟨⟨vs, rfl, hvs⟩, hWd, hE⟩ := hP
  have hts := atoms_spec (ws := [Cond.code yjpChk mijpChk.2.1 mijpChk.2.2.1 mijpChk.2.2.2.1]) B.pre
  obtain ⟨x1, vs1, rfl, hx1, hs1⟩ := Rs_int hvs
  obtain ⟨x2, vs2, rfl, hx2, hs2⟩ := Rs_int hs1
  obtain ⟨w, vs3, rfl, hw, hs3⟩ := Rs_cons hs2
  have := Rs_nil hs3
  subst this
  have : w = v := hw
  subst this
  have hc : ∀ z ∈ [Value.int x1, Value.int x2, w], z.category = 1 := by
    intro z hz
    simp only [List.mem_cons, List.not_mem_nil, or_false] at hz
    rcases hz with rfl | rfl | rfl
    · rfl
    · rfl
    · exact hv
  have hl := lv_entry [Value.int x1, Value.int x2, w] (n := 3) (by rw [lg_sl_len _ hc]; exact Nat.le_refl _)
  have hRl : Rl G.2.2.2.1 3 [some (aI i), some (aI n), none] ((lg_sl [Value.int x1, Value.int x2, w] ++ List.replicate (3 - (lg_sl [Value.int x1, Value.int x2, w]).length) Slot.unset).toArray) := by
    refine ⟨hl.1, hl.2.1, fun k a hk => ?_⟩
    match k, hk with
    | 0, hk => cases hk; exact ⟨.int x1, hl.2.2 _ (lv_args_at _ 0 hc 0 _ rfl), hx1⟩
    | 1, hk => cases hk; exact ⟨.int x2, hl.2.2 _ (lv_args_at _ 0 hc 1 _ rfl), hx2⟩
    | 2, hk => cases hk
    | k + 3, hk => simp at hk
  rw [lg_entry_eq]
  have main : Run G false (rmD 0 0 0) mijpChk (ZP G (some (aI i)) M) 0 0 0 [some (aI i), some (aI n), none] [] M := by
    refine R_iload_n djpChk_0 rfl rfl ?_
    refine R_if_lt djpChk_1 rfl (fun h => absurd h (by omega)) (fun _ => ?_)
    refine R_iload_n djpChk_4 rfl rfl ?_
    refine R_iload_n djpChk_5 rfl rfl ?_
    refine R_icmp_lt djpChk_6 rfl (fun _ => ?_) (fun h => absurd h1 h)
    refine R_iload_n djpChk_16 rfl rfl ?_
    exact E_iret djpChk_17 rfl rfl rfl
  exact main p l e s s m _ below meth c s.heap [] _ [] ⟨B.exec, B.bytes, hml, B.returns, B.notSynchronized, by exact findClass_of_methodNamed B.named, hst, XT_nil B (hts _ List.mem_cons_self), hE⟩ rfl hRl trivial hWd va_S.rf
theorem ct_jsChk {i n : Int} (h0 : 0 ≤ i) (h1 : i < n) : Ct G mijsChk yjsChk 1 [aI i, aI n] M none M := by
  refine Ct.of (L := [some (aI i), some (aI n)]) mwjsChk rfl trivial nle ⟨rfl, rfl, trivial⟩ ?_
  refine R_iload_n djsChk_0 rfl rfl ?_
  refine R_iload_n djsChk_1 rfl rfl ?_
  refine R_format djsChk_2 jfjs_1053 (fun v hv => ?_)
  refine R_callS (As := [aI i, aI n, aV v]) (st := []) djsChk_5 (ct_jpChk h0 h1 hv) mwjpChk msjpChk jljs_1059 rfl ⟨nle, nle, nle, nle⟩ nle rfl ?_
  refine R_popI djsChk_8 ?_
  exact E_vret djsChk_9 rfl rfl rfl
theorem ian255 (x : Int) : 0 ≤ ian x 255 ∧ ian x 255 < 256 := by
  unfold ian
  obtain ⟨k, hk, e⟩ := pk_andE (Int32.ofInt x) (m := Int32.ofInt 255) 8 rfl
  rw [e, nI_toInt (by omega)]
  omega
theorem nar_char {a : Int} (h0 : 0 ≤ a) (h1 : a < 65536) : ∀ x : Int32, x.toInt = a → narrow .char (.int x) = .int x := by
  intro x hx
  have hxn : x = nI a.toNat := (i_eq hx (by rw [nI_toInt (by omega)]; omega)).mpr rfl
  rw [hxn]
  exact (pk_charN (by omega)).1
theorem ct_jlChar {j : Nat} {i : Int} (hj : j < NS) (h0 : 0 ≤ i) (h1 : i < (lenT.getD j 0 : Nat)) : Ct G mijlChar yjlChar 2 [aR (300 + j), aI i] M (some (aI (ian ((bytT.getD j []).getD i.toNat 0).toInt 255))) M := by
  refine Ct.of (L := [some (aR (300 + j)), some (aI i)]) mwjlChar rfl trivial nle ⟨rfl, rfl, trivial⟩ ?_
  refine R_iload_n djlChar_0 rfl rfl ?_
  refine R_aload_n djlChar_1 rfl rfl ?_
  refine R_strLen djlChar_2 hj rfl ?_
  refine R_callS (As := [aI i, aI (lenT.getD j 0 : Nat)]) (st := []) djlChar_3 (ct_jsChk h0 h1) mwjsChk msjsChk jljl_9 rfl ⟨nle, nle, nle, nle⟩ nle rfl ?_
  refine R_aload_n djlChar_6 rfl rfl ?_
  refine R_iload_n djlChar_7 rfl rfl ?_
  refine R_strByte djlChar_8 hj h0 h1 rfl ?_
  refine R_sipush djlChar_9 (v := 255) rfl ?_
  refine R_iand djlChar_12 rfl ?_
  have h2 := ian255 (((bytT.getD j []).getD i.toNat 0).toInt)
  refine R_i2c djlChar_13 h2.1 (by omega) ?_
  exact E_nret djlChar_14 rfl (nar_char h2.1 (by omega)) rfl rfl
theorem ct_jsChar {j : Nat} {i : Int} (hj : j < NS) (h0 : 0 ≤ i) (h1 : i < (lenT.getD j 0 : Nat)) : Ct G mijsChar yjsChar 3 [aR (200 + j), aI i] M (some (aI (ian ((bytT.getD j []).getD i.toNat 0).toInt 255))) M := by
  refine Ct.of (L := [some (aR (200 + j)), some (aI i)]) mwjsChar rfl trivial nle ⟨rfl, rfl, trivial⟩ ?_
  refine R_aload_n djsChar_0 rfl rfl ?_
  refine R_callVs (As := []) (st := []) djsChar_1 (ct_jsLat hj) mwjsLat mvjsLat wd830 hj rfl rfl ⟨nle, nle, nle, nle⟩ nle rfl ?_
  refine R_if_eq djsChar_4 rfl (fun h => absurd h (by decide)) (fun _ => ?_)
  refine R_aload_n djsChar_7 rfl rfl ?_
  refine R_strVal djsChar_8 jfjs_9 hj ?_
  refine R_iload_n djsChar_11 rfl rfl ?_
  refine R_callS (As := [aR (300 + j), aI i]) (st := []) djsChar_12 (ct_jlChar hj h0 h1) mwjlChar msjlChar jljs_495 rfl ⟨nle, nle, nle, nle⟩ nle rfl ?_
  have h2 := ian255 (((bytT.getD j []).getD i.toNat 0).toInt)
  exact E_nret djsChar_15 rfl (nar_char h2.1 (by omega)) rfl rfl
end STRC
section STRR
variable {G : Gl} {fl : Bool} {R : Room} {mi : MI} {Z : ZT} {cells slots pc : Nat} {L : List (Option AV)} {st : List AV} {M : Mem} {index : Nat}
theorem R_slen {o : Nat} {v : Int} (hd : decode mi.2.1 pc = .ok (.invokevirtual index, 3)) (hml : Cond.methodLink mi.1 index yjsLen ∈ lw_tbl) (ho : isS o) (hR : 2 ≤ R.frames ∧ 57 ≤ R.locals ∧ cells ≤ R.cells ∧ slots ≤ R.slots) (hst : 2 * st.length ≤ 8) (hv : v = slen o) (k : Run G fl R mi Z cells slots (pc + 3) L (aI v :: st) M) : Run G fl R mi Z cells slots pc L (aR o :: st) M := by
  obtain ⟨j, hj, rfl⟩ : ∃ j, j < NS ∧ o = 200 + j := ⟨o - 200, by have := ho.1; have := ho.2; omega, by have := ho.1; omega⟩
  subst hv
  unfold slen at k
  rw [Nat.add_sub_cancel_left] at k
  exact R_callVs (As := []) (st := st) hd (ct_jsLen hj) mwjsLen mvjsLen hml hj rfl rfl ⟨hR.1, by show 8 + (1 + 11) + 37 * 1 ≤ _; omega, hR.2.2⟩ hst rfl k
theorem R_sch {o : Nat} {i v : Int} (hd : decode mi.2.1 pc = .ok (.invokevirtual index, 3)) (hml : Cond.methodLink mi.1 index yjsChar ∈ lw_tbl) (ho : isS o) (h0 : 0 ≤ i) (h1 : i < slen o) (hR : 4 ≤ R.frames ∧ 132 ≤ R.locals ∧ cells ≤ R.cells ∧ slots ≤ R.slots) (hst : 2 * st.length ≤ 8) (hv : v = sch o i) (k : Run G fl R mi Z cells slots (pc + 3) L (aI v :: st) M) : Run G fl R mi Z cells slots pc L (aI i :: aR o :: st) M := by
  obtain ⟨j, hj, rfl⟩ : ∃ j, j < NS ∧ o = 200 + j := ⟨o - 200, by have := ho.1; have := ho.2; omega, by have := ho.1; omega⟩
  subst hv
  unfold sch at k
  unfold slen at h1
  rw [Nat.add_sub_cancel_left] at k h1
  exact R_callVs (As := [aI i]) (st := st) hd (ct_jsChar hj h0 h1) mwjsChar mvjsChar hml hj rfl rfl ⟨hR.1, by show 8 + (2 + 11) + 37 * 3 ≤ _; omega, hR.2.2⟩ hst rfl k
end STRR
