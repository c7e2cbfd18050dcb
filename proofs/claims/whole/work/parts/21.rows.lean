/-! ===== longs, floats and doubles, handlers; the law's wrappers ===== -/
section WR
variable {G : Gl} {fl : Bool} {R : Room} {mi mi2 : MI} {Z : ZT} {cells slots pc : Nat} {L : List (Option AV)} {st st0 : List AV} {M M' : Mem} {r : Option AV} {As : List AV} {y : MethodName} {d index n mc ms x : Nat}
abbrev aL (a : Int) : AV := aV (.long (Int32.ofInt a).toInt64)
theorem R_i2l {a : Int} (hd : decode mi.2.1 pc = .ok (.i2l, 1)) (k : inR a → Run G fl R mi Z cells slots (pc + 1) L (aL a :: st) M) : Run G fl R mi Z cells slots pc L (aI a :: st) M := by
  intro p l e s0 s m args below meth c H locs ls vs C D hl hs hW hS
  obtain ⟨x, vs2, rfl, hx, hs1⟩ := Rs_int hs
  refine lv_i2l C.1 C.2.1 hd rfl ?_
  exact k (by rw [← hx]; exact toInt_in x) p l e s0 s m args below meth c H locs ls _ C D hl ⟨(show Value.long x.toInt64 = Value.long (Int32.ofInt a).toInt64 from by rw [ofInt_of hx]), hs1⟩ hW hS
theorem R_lconst {j : Fin 2} {a : Int} (hd : decode mi.2.1 pc = .ok (.lconst j, 1)) (ha : Int64.ofNat (j : Nat) = (Int32.ofInt a).toInt64) (k : Run G fl R mi Z cells slots (pc + 1) L (aL a :: st) M) : Run G fl R mi Z cells slots pc L st M := by
  intro p l e s0 s m args below meth c H locs ls vs C D hl hs hW hS
  refine lv_lconst C.1 C.2.1 hd ha ?_
  exact k p l e s0 s m args below meth c H locs ls _ C D hl ⟨rfl, hs⟩ hW hS
theorem lng_up {M : Mem} {a : Nat} {i : Int32} {w v : Int} (hi : i.toInt = v) (h0 : 0 ≤ v) : (vp_updL (fun (j : Nat) => (Int32.ofInt (M a (j : Nat))).toInt64) i.toNatClampNeg (Int32.ofInt w).toInt64) = (fun (j : Nat) => (Int32.ofInt (up M a v w a (j : Nat))).toInt64) := by
  funext j
  have hc := clamp_int hi h0
  by_cases e : j = i.toNatClampNeg
  · subst e
    rw [pk_uLs, hc, up_eq]
  · rw [pk_uLn e, up_nei (by omega)]
theorem R_lastore {a n : Nat} {i v : Int} (hd : decode mi.2.1 pc = .ok (.lastore, 1)) (ha : isA 24 n a) (h0 : 0 ≤ i) (h1 : i < n) (hv : inR v) (hM : M' = up M a i v) (kk : Run G fl R mi Z cells slots (pc + 1) L st M') : Run G fl R mi Z cells slots pc L (aL v :: aI i :: aR a :: st) M := by
  intro p l e s0 s m args below meth c H locs ls vs CC D hl hs hW hS
  obtain ⟨hx, hb, hml, hr, hlk, hown, hst, hxt, hE⟩ := id CC
  obtain ⟨z, vs0, rfl, hz, hs0⟩ := Rs_cons hs
  have hz2 : z = .long (Int32.ofInt v).toInt64 := hz
  subst hz2
  obtain ⟨x, vs1, rfl, hxv, hs1⟩ := Rs_int hs0
  obtain ⟨vs2, rfl, hs2⟩ := Rs_ref hs1
  obtain ⟨hTB, hK, -, -, -, -, had, -⟩ := id hE
  have ha2 : G.2.2.2.1 a = G.2.2.1 + a := had a (by have := ha.1; unfold NO at this; omega)
  have he := wrl_at G.2.1 G.2.2.1 M ha.1
  rw [cel_lng _ _ _ ha.2] at he
  rw [ha2]
  refine va_last hx hb hK hW.1 (wrl_D G M) hS a 4 he rfl (vp_in_int hxv h0 h1) hd (fun H1 locs1 hP1 hD1 hS1 => ?_)
  rw [lng_up hxv h0, wrl_set _ _ _ (up M a i v) _ _ (cel_lng _ _ _ ha.2) (fun j hj => cel_congr _ _ (fun i => up_ne hj i))] at hP1
  subst hM
  exact kk p l e s0 s m args below meth c H1 locs1 ls _ CC D hl hs2 ⟨hP1, RM_up hW.2 hv⟩ hS1
theorem R_laload {a n : Nat} {i v : Int} (hd : decode mi.2.1 pc = .ok (.laload, 1)) (ha : isA 24 n a) (h0 : 0 ≤ i) (h1 : i < n) (hv : v = M a i) (kk : inR v → Run G fl R mi Z cells slots (pc + 1) L (aL v :: st) M) : Run G fl R mi Z cells slots pc L (aI i :: aR a :: st) M := by
  intro p l e s0 s m args below meth c H locs ls vs CC D hl hs hW hS
  obtain ⟨hx, hb, hml, hr, hlk, hown, hst, hxt, hE⟩ := id CC
  obtain ⟨x, vs1, rfl, hxv, hs1⟩ := Rs_int hs
  obtain ⟨vs2, rfl, hs2⟩ := Rs_ref hs1
  obtain ⟨hTB, hK, -, -, -, -, had, -⟩ := id hE
  have ha2 : G.2.2.2.1 a = G.2.2.1 + a := had a (by have := ha.1; unfold NO at this; omega)
  have he := wrl_at G.2.1 G.2.2.1 M ha.1
  rw [cel_lng _ _ _ ha.2] at he
  rw [ha2]
  refine va_lald hx hb hK hW.1 a 4 he rfl (vp_in_int hxv h0 h1) hd ?_
  refine kk (by rw [hv]; exact hW.2 _ _) p l e s0 s m args below meth c H locs ls _ CC D hl ⟨?_, hs2⟩ hW hS
  show Value.long (Int32.ofInt (M a (x.toNatClampNeg : Nat))).toInt64 = _
  rw [clamp_int hxv h0, hv]
/-- two longs that come of numbers: 0 where they are one -/
theorem R_lcmp {a b : Int} (hd : decode mi.2.1 pc = .ok (.lcmp, 1)) (ha : inR a) (hb : inR b) (k : ∀ v : Int, (v = 0 ↔ a = b) → Run G fl R mi Z cells slots (pc + 1) L (aI v :: st) M) : Run G fl R mi Z cells slots pc L (aL b :: aL a :: st) M := by
  intro p l e s0 s m args below meth c H locs ls vs CC D hl hs hW hS
  obtain ⟨z, vs0, rfl, hz, hs0⟩ := Rs_cons hs
  have hz2 : z = .long (Int32.ofInt b).toInt64 := hz
  subst hz2
  obtain ⟨w, vs1, rfl, hw, hs1⟩ := Rs_cons hs0
  have hw2 : w = .long (Int32.ofInt a).toInt64 := hw
  subst hw2
  refine W.lcmp CC.1 CC.2.1 hd ?_
  refine k _ ?_ p l e s0 s m args below meth c H locs ls _ CC D hl ⟨rfl, hs1⟩ hW hS
  have e1 : (Int32.ofInt a).toInt64 = (Int32.ofInt b).toInt64 ↔ a = b := by
    constructor
    · intro h
      have h2 := congrArg Int64.toInt h
      rw [Int32.toInt_toInt64, Int32.toInt_toInt64, ofInt_toInt ha, ofInt_toInt hb] at h2
      exact h2
    · intro h; rw [h]
  unfold lg_cmp
  by_cases hgt : (Int32.ofInt a).toInt64 > (Int32.ofInt b).toInt64
  · rw [if_pos hgt]
    constructor
    · intro h; cases h
    · intro h
      rw [h] at hgt
      exact (Int64.lt_irrefl hgt).elim
  · rw [if_neg hgt]
    by_cases heq : (Int32.ofInt a).toInt64 = (Int32.ofInt b).toInt64
    · rw [if_pos heq]
      exact ⟨fun _ => e1.mp heq, fun _ => rfl⟩
    · rw [if_neg heq]
      exact ⟨fun h => absurd h (by decide), fun h => absurd (e1.mpr h) heq⟩
/-! a reference that is no object of ours into a local: the place is unknown then -/
theorem Rl_storeN {ad : Nat → Nat} {nL : Nat} {L : List (Option AV)} {ls ls' : Array Slot} {i : Nat} {x : Value} (h : Rl ad nL L ls)
    (h' : lv_has ls' nL ((i, x) :: (lvA ls).filter (fun q => !(q.1 == i) && !(q.1 + 1 == i && q.2.category == 2)))) : Rl ad nL (L.set i none) ls' := by
  refine ⟨h'.1, h'.2.1, fun j b hj => ?_⟩
  by_cases e : j = i
  · subst e
    have hlt : j < L.length := by
      have := (List.getElem?_eq_some_iff.mp hj).1
      simpa using this
    rw [List.getElem?_set_self hlt] at hj
    cases hj
  · rw [List.getElem?_set_ne (Ne.symm e)] at hj
    obtain ⟨v, hv, hr⟩ := h.2.2 j b hj
    refine ⟨v, h'.2.2 (j, v) (List.mem_cons_of_mem _ (List.mem_filter.mpr ⟨lvA_mem hv, ?_⟩)), hr⟩
    have hc := hr.v.2
    simp [e, hc]
theorem R_astoreV_n {j : Fin 4} {i q : Nat} {L' : List (Option AV)} (hd : decode mi.2.1 pc = .ok (.astore_n j, 1)) (hi : (j : Nat) = i) (hi2 : i < mi.2.2.1) (hL : L.set i none = L') (k : Run G fl R mi Z cells slots (pc + 1) L' st M) : Run G fl R mi Z cells slots pc L (aV (.ref q) :: st) M := by
  intro p l e s0 s m args below meth c H locs ls vs C D hl hs hW hS
  obtain ⟨z, vs0, rfl, hz, hs0⟩ := Rs_cons hs
  have hz2 : z = .ref q := hz
  subst hz2
  refine lv_astore_n C.1 C.2.1 hd hi (lvA_has hl) hi2 rfl (fun ls' h' => ?_)
  subst hL
  exact k p l e s0 s m args below meth c H locs ls' _ C D (Rl_storeN hl h') hs0 hW hS
theorem R_astoreV {i q : Nat} {L' : List (Option AV)} (hd : decode mi.2.1 pc = .ok (.astore i, 2)) (hi2 : i < mi.2.2.1) (hL : L.set i none = L') (k : Run G fl R mi Z cells slots (pc + 2) L' st M) : Run G fl R mi Z cells slots pc L (aV (.ref q) :: st) M := by
  intro p l e s0 s m args below meth c H locs ls vs C D hl hs hW hS
  obtain ⟨z, vs0, rfl, hz, hs0⟩ := Rs_cons hs
  have hz2 : z = .ref q := hz
  subst hz2
  refine lv_astore C.1 C.2.1 hd (lvA_has hl) hi2 rfl (fun ls' h' => ?_)
  subst hL
  exact k p l e s0 s m args below meth c H locs ls' _ C D (Rl_storeN hl h') hs0 hW hS
/-- a wrapper: a table of handlers, nothing leaves it -/
def ZW (G : Gl) (mc ms : Nat) (r : Option AV) (M' : Mem) : ZT := fun below args s => MQ below (QcR G r M') args s mc ms (fre G)
def CtW (G : Gl) (mi : MI) (y : MethodName) (d mc ms : Nat) (As : List AV) (M : Mem) (r : Option AV) (M' : Mem) : Prop :=
  ∀ l : Launch, l.stackTraces = false → Met l y [Cond.codeWith y mi.2.1 mi.2.2.1 mi.2.2.2.1 mi.2.2.2.2] (rmD d mc ms) (PcR G As M) (QcR G r M') mc ms (fre G)
/-- the words of a wrapper -/
def WW (mi : MI) (y : MethodName) (n : Nat) : Prop := Cond.codeWith y mi.2.1 mi.2.2.1 mi.2.2.2.1 mi.2.2.2.2 ∈ lw_tbl ∧ Cond.initialized y.cls ∈ lw_tbl ∧
  (y.cls ≠ "java/lang/invoke/MethodHandle" ∧ y.cls ≠ "java/lang/invoke/VarHandle" ∧ (parseMethodDescriptor y.desc).map (fun d => d.parameters.length) = some n) ∧ plainName y.cls = true ∧ mi.1 = y.cls ∧ Cond.static y ∈ lw_tbl
theorem EW_iret {a : Int} (hd : decode mi.2.1 pc = .ok (.ireturn, 1)) (hrt : mi.2.2.2.1 = some .int) (hr : r = some (aI a)) (hM : M' = M) : Run G false R mi (ZW G mc ms r M') mc ms pc L [aI a] M := by
  intro p l e s0 s m args below meth c H locs ls vs CC D hl hs hW hS
  obtain ⟨hx, hb, hmx, hrr, hlk, hown, hst', hxt, hE⟩ := id CC
  obtain ⟨x, vs1, rfl, hxv, hs1⟩ := Rs_int hs
  have := Rs_nil hs1
  subst this
  have hD : s = s0 := D
  subst hD; subst hr; subst hM
  exact W.iret hx hb (hrr.trans hrt) (fun t ht hWm => ⟨⟨_, rfl, hxv, by rw [ht]; exact hW⟩, hS.F ht⟩) hS.fr hd hlk
/-- a handler for exceptions of class E, from place pc on -/
def Hnd (mi : MI) (pc : Nat) (E : String) (hp : Nat) : Prop := ∃ (pre suf : List (Nat × Nat × Nat × Nat)) (sp ep ct : Nat), mi.2.2.2.2 = pre ++ (sp, ep, hp, ct) :: suf ∧ (∀ z ∈ pre, z.2.2.2 ≠ 0 ∧ ∃ nm, Cond.classLink mi.1 z.2.2.2 nm ∈ lw_tbl ∧ (E, nm) ∈ ncT) ∧
  sp ≤ pc ∧ pc < ep ∧ ct ≠ 0 ∧ Cond.classLink mi.1 ct E ∈ lw_tbl ∧ Cond.castable E E ∈ lw_tbl
theorem catch_ok {p : Program} {l : Launch} {e : Env} {s0 s : State} {m : MethodId} {args : Array Value} {below : List Frame} {meth : Method} {c : Code} {H : Heap} {locs : List Loc} {ls : Array Slot} {E : String} {ce : Cell} {q hp : Nat} {rest : List Value}
    (CC : Cx G mi p l s m meth c) (D : Dr fl s0 s) (hl : Rl G.2.2.2.1 mi.2.2.1 L ls) (hW : Wd G M H) (hS : va_S (fre G) s.heap H locs) (hh : Hnd mi pc E hp) (hce : H[q]? = some ce) (hcv : ce.vm = .none) (hcl : s.vm.findClass E = some ce.cls)
    (k : Run G fl R mi Z cells slots hp L [aV (.ref q)] M) : vx_W p l e R s m args below meth c H locs cells slots (Z below args s0) (F0 m pc ls rest) q := by
  obtain ⟨hx, hb, hmx, hrr, hlk, hown, hst', hxt, hE⟩ := id CC
  obtain ⟨pre, suf, sp, ep, ct, h1, h2, h3, h4, h5, h6, h7⟩ := hh
  unfold XT at hxt
  rw [h1] at hxt
  obtain ⟨pre', suf', e1, e2, e3⟩ := List.map_eq_append_iff.mp hxt
  obtain ⟨w, suf'', e4, e5, e6⟩ := List.map_eq_cons_iff.mp e3
  subst e4
  have w1 : w.startPc = sp := congrArg (fun z => z.1) e5
  have w2 : w.endPc = ep := congrArg (fun z => z.2.1) e5
  have w3 : w.handlerPc = hp := congrArg (fun z => z.2.2.1) e5
  have w4 : w.catchType = ct := congrArg (fun z => z.2.2.2) e5
  refine vx_catch hown pre' w suf'' e1 (fun z hz => Or.inr ?_) ?_ (by rw [w4]; exact h5) (name := E) (by rw [w4]; exact hE.1.use h6 rfl) (hE.1.use h7 rfl) hce hcv hcl ?_
  · have hz2 : (z.startPc, z.endPc, z.handlerPc, z.catchType) ∈ pre := by rw [← e2]; exact List.mem_map_of_mem hz
    obtain ⟨g1, nm, g2, g3⟩ := h2 _ hz2
    exact ⟨g1, nm, hE.1.use g2 rfl, hE.2.2.2.2.2.2.2.2.2.2.1 _ g3⟩
  · simp only [covers, Bool.and_eq_true, decide_eq_true_eq, w1, w2]
    exact ⟨h3, h4⟩
  · rw [w3]
    exact k p l e s0 s m args below meth c H locs ls _ CC D hl ⟨rfl, trivial⟩ hW hS
theorem R_callVXc {o ci : Nat} {C : String} (hd : decode mi.2.1 pc = .ok (.invokevirtual index, 3)) (hc : CtX G mi2 y d mc ms (aR o :: As) M x r M') (hw : MW mi2 y n) (hv : MV y) (hml : Cond.methodLink mi.1 index y ∈ lw_tbl) (hCL : CL ci C) (ho : isO ci o) (hyC : y.cls = C) (hn : As.length = n)
    (hR : d + 1 ≤ R.frames ∧ 8 + (mi2.2.2.1 + 11) + 37 * d ≤ R.locals ∧ cells + mc ≤ R.cells ∧ slots + ms ≤ R.slots) (hst : 2 * st.length ≤ 8) (hst0 : As.reverse ++ aR o :: st = st0)
    (kx : ¬ x = 0 → ∃ hp : Nat, Hnd mi pc (exN x) hp ∧ ∀ q : Nat, Run G false R mi Z (cells + mc) (slots + ms) hp L [aV (.ref q)] M') (k : x = 0 → Run G false R mi Z (cells + mc) (slots + ms) (pc + 3) L (r.toList ++ st) M') : Run G false R mi Z cells slots pc L st0 M := by
  intro p l e s0 s m args below meth c H locs ls vs CC D hl hs hW hS
  obtain ⟨hx, hb, hmx, hr, hlk, hown, hst', hxt, hE⟩ := id CC
  subst hst0
  obtain ⟨us, ws, rfl, hu, hs1, hlu⟩ := Rs_stk hs
  obtain ⟨vs2, rfl, hs2⟩ := Rs_ref hs1
  have hTB := hE.1
  subst hyC
  have hpre : PreV s H y.cls (G.2.2.2.1 o) (PcR G (aR o :: As) M) us := ⟨PcR.blind _ _ _, recv_ok hE hW hCL ho, pre_ok hE hW hS (show Rs G.2.2.2.1 (aR o :: As) (Value.ref (G.2.2.2.1 o) :: us) from ⟨rfl, hu⟩)⟩
  have hr := vx_runV (e := e) (R := R) (args := args) (below := below) (meth := meth) (locs := locs) (Ts := []) ⟨hx, hb, hmx, hown, fun _ h => nomatch h⟩ (hc l hst') ⟨callB_mk hTB hw ⟨hR.1, hR.2.1⟩ hml, hTB.use hv.1 rfl, hTB.use hv.2 rfl⟩ hpre (g := F0 m pc ls (us.reverse ++ Value.ref (G.2.2.2.1 o) :: vs2)) rfl (hlu.trans hn) hl.1 rfl (lv_room (cat_le hs2 hst)) hd ⟨hR.2.2.1, hR.2.2.2⟩
  intro T hT X
  rcases hr T hT X with ⟨v, st₀, t, T', Lx, h0, X', hL, e1, e2, ⟨hx0, ⟨v', hv', hro, hWd⟩, hF⟩, stp⟩ | ⟨q, st₀, t, T', Lx, E, ce, h0, X', hL, e1, e2, ⟨hx0, hEq, hWd, hF⟩, hce, hcv, hcl, stp⟩
  · cases hv'
    obtain ⟨k1, k2, k3⟩ := vx_keep h0 e1 hS (fun _ _ h => h) (fun _ h => h) hL hF
    have hs' : Rs G.2.2.2.1 (r.toList ++ st) (v.toList ++ vs2) := by
      cases r with
      | none => cases v with
        | none => exact hs2
        | some _ => exact hro.elim
      | some r => cases v with
        | none => exact hro.elim
        | some _ => exact ⟨hro, hs2⟩
    obtain ⟨t2, a1, b1⟩ := k hx0 p l e s0 s m args below meth c T'.heap (locs ++ Lx) ls _ CC D hl hs' (by rw [e1]; exact hWd) k3 T' rfl X'
    exact ⟨t2, stp t2 a1, b1⟩
  · obtain ⟨k1, k2, k3⟩ := vx_keep h0 e1 hS (fun _ _ h => h) (fun _ h => h) hL hF
    obtain ⟨hp, hh, kq⟩ := kx hx0
    subst hEq
    obtain ⟨t2, a1, b1⟩ := catch_ok (fl := false) (R := R) (Z := Z) (e := e) (s0 := s0) (args := args) (below := below) (rest := vs2) CC D hl (show Wd G M' T'.heap from by rw [e1]; exact hWd) k3 hh (by rw [e1]; exact hce) hcv hcl (kq q) T' rfl X'
    exact ⟨t2, stp.trans a1, b1⟩
theorem CtW.of (hw : WW mi y n) (hp : plainA As) (hn : As.length ≤ mi.2.2.1) (hL : lsub L (As.map some)) (k : Run G false (rmD d mc ms) mi (ZW G mc ms r M') 0 0 0 L [] M) : CtW G mi y d mc ms As M r M' := by
  intro l hst
  refine MetFree.of_bodyS (code := mi.2.1) (maxLocals := mi.2.2.1) (ret := mi.2.2.2.1) hw.2.2.2.1 ?_ ?_
  · intro args s m h hn
    obtain ⟨m9, meth, c, hn9, h1, h2, h3, h4, -, h5, h6, -⟩ := Cond.codeWith_spec (atoms_spec (ws := [Cond.codeWith y mi.2.1 mi.2.2.1 mi.2.2.2.1 mi.2.2.2.2]) h _ List.mem_cons_self)
    cases hn.symm.trans hn9
    exact ⟨meth, c, h1, h2, h3, h4, h5, h6⟩
  · intro p e s m args below meth c s₁ B hml hP _
    obtain ⟨⟨vs, rfl, hvs⟩, hWd, hE⟩ := hP
    have hh0 : s₁.heap = s.heap := by rw [B.state]; rfl
    have hxt : XT c mi.2.2.2.2 := by
      obtain ⟨m9, meth9, c9, hn9, h1, h2, h3, h4, hx9, -⟩ := Cond.codeWith_spec (atoms_spec (ws := [Cond.codeWith y mi.2.1 mi.2.2.1 mi.2.2.2.1 mi.2.2.2.2]) B.pre _ List.mem_cons_self)
      cases Option.some.inj (hn9.symm.trans B.named)
      cases Option.some.inj (h1.symm.trans B.method)
      cases Option.some.inj (h2.symm.trans (Stand.of_body B).code)
      exact hx9
    have hk := k p l e s s m vs.toArray below meth c s.heap [] _ [] ⟨B.exec, B.bytes, hml, B.returns, B.notSynchronized, by rw [hw.2.2.2.2.1]; exact findClass_of_methodNamed B.named, hst, hxt, hE⟩ rfl (entry_ok hp hvs hn hL) trivial hWd va_S.rf
    have hk' : W p l e (rmD d mc ms) s m vs.toArray below meth c s.heap [] 0 0 (ZW G mc ms r M' below vs.toArray s) (entryFrame m vs.toArray mi.2.2.1) := by rw [lg_entry_eq]; exact hk
    obtain ⟨t, a1, o, b1, b2, b3⟩ := hk' s₁ hh0 (Stand.of_body B)
    exact ⟨t, o, a1, b1, b2, ⟨b3.1, b3.2⟩⟩
theorem R_callSW (hd : decode mi.2.1 pc = .ok (.invokestatic index, 3)) (hc : CtW G mi2 y d mc ms As M r M') (hw : WW mi2 y n) (hml : Cond.methodLink mi.1 index y ∈ lw_tbl) (hn : As.length = n)
    (hR : d + 1 ≤ R.frames ∧ 8 + (mi2.2.2.1 + 11) + 37 * d ≤ R.locals ∧ cells + mc ≤ R.cells ∧ slots + ms ≤ R.slots) (hst : 2 * st.length ≤ 8) (hst0 : As.reverse ++ st = st0) (k : Run G fl R mi Z (cells + mc) (slots + ms) (pc + 3) L (r.toList ++ st) M') : Run G fl R mi Z cells slots pc L st0 M := by
  intro p l e s0 s m args below meth c H locs ls vs CC D hl hs hW hS
  obtain ⟨hx, hb, hmx, hr, hlk, hown, hst', hxt, hE⟩ := id CC
  subst hst0
  obtain ⟨us, ws, rfl, hu, hs2, hlu⟩ := Rs_stk hs
  have hTB := hE.1
  have hpre : PreS s H (PcR G As M) us := ⟨PcR.blind _ _ _, pre_ok hE hW hS hu⟩
  have hcs : vx_CSW R s args mi.1 index y mi2.2.1 mi2.2.2.1 mi2.2.2.2.1 mi2.2.2.2.2 [Cond.codeWith y mi2.2.1 mi2.2.2.1 mi2.2.2.2.1 mi2.2.2.2.2] (rmD d mc ms) mc ms n := by
    obtain ⟨h1, h2, h3, h4, h5, h6⟩ := hw
    refine ⟨⟨rfl, rfl, hR.1, hR.2.1, fun w hw a' U hWm => ?_, List.mem_cons_self⟩, hTB.use h1 rfl, hTB.use h2 rfl, ⟨h3.1, h3.2.1⟩, fun sig h => ?_, hTB.use hml rfl, hTB.use h6 rfl⟩
    · rw [List.mem_singleton.mp hw]
      exact (hTB.warm hWm).use h1 rfl
    · have h7 := h3.2.2
      rw [h] at h7
      exact (Option.some.inj h7).symm
  have hr := vx_runSW (e := e) (R := R) (args := args) (below := below) (meth := meth) (locs := locs) (cells := cells) (slots := slots) (Ts := []) ⟨hx, hb, hmx, hown, fun _ h => nomatch h⟩ (hc l hst') hcs hpre (g := F0 m pc ls (us.reverse ++ ws)) (rest := ws) rfl (hlu.trans hn) hl.1 rfl (lv_room (cat_le hs2 hst)) hd ⟨hR.2.2.1, hR.2.2.2⟩
  intro T hT X
  obtain ⟨v, st₀, t, T', Lx, h0, X', hL, e1, e2, ⟨⟨v', hv', hro, hWd⟩, hF⟩, stp⟩ := hr T hT X
  cases hv'
  obtain ⟨k1, k2, k3⟩ := vx_keep h0 e1 hS (fun _ _ h => h) (fun _ h => h) hL hF
  have hs' : Rs G.2.2.2.1 (r.toList ++ st) (v.toList ++ ws) := by
    cases r with
    | none => cases v with
      | none => exact hs2
      | some _ => exact hro.elim
    | some r => cases v with
      | none => exact hro.elim
      | some _ => exact ⟨hro, hs2⟩
  obtain ⟨t2, a1, b1⟩ := k p l e s0 s m args below meth c T'.heap (locs ++ Lx) ls _ CC D hl hs' (by rw [e1]; exact hWd) k3 T' rfl X'
  exact ⟨t2, stp t2 a1, b1⟩
end WR
