/-! ===== methods that divide doubles or floats: contracts with draws ===== -/
def QcD (G : Gl) (P : Value → Prop) (M' : Mem) : Array Value → State → Outcome → State → Prop := fun _ st o t => (∃ w, o = .returned (some w) ∧ P w ∧ Wd G M' t.heap) ∧ va_F (fre G) st t
def ZD (G : Gl) (P : Value → Prop) (M' : Mem) : ZT := fun below args s => MQD lw_cs below (QcD G P M') args s 0 0 (fre G)
def CtD (G : Gl) (mi : MI) (y : MethodName) (d : Nat) (As : List AV) (M : Mem) (P : Value → Prop) (M' : Mem) : Prop :=
  ∀ l : Launch, l.stackTraces = false → MetD lw_cs l y [Cond.code y mi.2.1 mi.2.2.1 mi.2.2.2.1] (rmD d 0 0) (PcR G As M) (QcD G P M') 0 0 (fre G)
/-- a quotient of numbers, or 0.0 / 1.0f where there is nothing to divide by -/
def pD (n d : Int) (w : Value) : Prop := if d = 0 then w = .double FP.dconst0 else ∃ r, w = .double r ∧ alike64 r (FP.ddiv (FP.i2d (Int32.ofInt n)) (FP.i2d (Int32.ofInt d))) = true
def pF (n d : Int) (w : Value) : Prop := if d = 0 then w = .float FP.fconst1 else ∃ r, w = .float r ∧ alike32 r (FP.fdiv (FP.i2f (Int32.ofInt n)) (FP.i2f (Int32.ofInt d))) = true
abbrev aD (n : Int) : AV := aV (.double (FP.i2d (Int32.ofInt n)))
abbrev aF (n : Int) : AV := aV (.float (FP.i2f (Int32.ofInt n)))
section DRW
variable {G : Gl} {fl : Bool} {R : Room} {mi mi2 : MI} {Z : ZT} {cells slots pc : Nat} {L : List (Option AV)} {st st0 : List AV} {M M' : Mem} {As : List AV} {y : MethodName} {d n : Nat} {P : Value → Prop}
theorem CtD.of (hw : MW mi y n) (hxt : mi.2.2.2.2 = []) (hp : plainA As) (hn : As.length ≤ mi.2.2.1) (hL : lsub L (As.map some)) (k : Run G true (rmD d 0 0) mi (ZD G P M') 0 0 0 L [] M) : CtD G mi y d As M P M' := by
  intro l hst
  refine MetD.ofW (cc := mi.2.1) (maxL := mi.2.2.1) (ret := mi.2.2.2.1) hw.2.2.2.1 rfl ?_
  intro p e s m args below meth c s₁ B hml hv hd0
  obtain ⟨⟨vs, rfl, hvs⟩, hWd, hE⟩ := hv
  have hts := atoms_spec (ws := [Cond.code y mi.2.1 mi.2.2.1 mi.2.2.2.1]) B.pre
  rw [lg_entry_eq]
  refine k p l e s (s.setDrawn s.drawn) m vs.toArray below meth c s.heap [] _ [] ⟨B.exec, B.bytes, hml, B.returns, B.notSynchronized, ?_, hst, ?_, hE⟩ ⟨s.drawn, hd0, rfl⟩ (entry_ok hp hvs hn hL) trivial hWd va_S.rf
  · rw [hw.2.2.2.2]; exact findClass_of_methodNamed B.named
  · rw [hxt]; exact XT_nil B (hts _ List.mem_cons_self)
theorem R_i2d {a : Int} (hd : decode mi.2.1 pc = .ok (.i2d, 1)) (k : Run G fl R mi Z cells slots (pc + 1) L (aD a :: st) M) : Run G fl R mi Z cells slots pc L (aI a :: st) M := by
  intro p l e s0 s m args below meth c H locs ls vs C D hl hs hW hS
  obtain ⟨x, vs2, rfl, hx, hs1⟩ := Rs_int hs
  refine lv_i2d C.1 C.2.1 hd ?_
  exact k p l e s0 s m args below meth c H locs ls _ C D hl ⟨(show Value.double (FP.i2d x) = Value.double (FP.i2d (Int32.ofInt a)) from by rw [ofInt_of hx]), hs1⟩ hW hS
theorem R_i2f {a : Int} (hd : decode mi.2.1 pc = .ok (.i2f, 1)) (k : Run G fl R mi Z cells slots (pc + 1) L (aF a :: st) M) : Run G fl R mi Z cells slots pc L (aI a :: st) M := by
  intro p l e s0 s m args below meth c H locs ls vs C D hl hs hW hS
  obtain ⟨x, vs2, rfl, hx, hs1⟩ := Rs_int hs
  refine lv_i2f C.1 C.2.1 hd ?_
  exact k p l e s0 s m args below meth c H locs ls _ C D hl ⟨(show Value.float (FP.i2f x) = Value.float (FP.i2f (Int32.ofInt a)) from by rw [ofInt_of hx]), hs1⟩ hW hS
theorem R_dconst0 (hd : decode mi.2.1 pc = .ok (.dconst 0, 1)) (k : Run G fl R mi Z cells slots (pc + 1) L (aV (.double FP.dconst0) :: st) M) : Run G fl R mi Z cells slots pc L st M := by
  intro p l e s0 s m args below meth c H locs ls vs C D hl hs hW hS
  refine lv_dconst0 C.1 C.2.1 hd ?_
  exact k p l e s0 s m args below meth c H locs ls _ C D hl ⟨rfl, hs⟩ hW hS
theorem R_fconst1 (hd : decode mi.2.1 pc = .ok (.fconst 1, 1)) (k : Run G fl R mi Z cells slots (pc + 1) L (aV (.float FP.fconst1) :: st) M) : Run G fl R mi Z cells slots pc L st M := by
  intro p l e s0 s m args below meth c H locs ls vs C D hl hs hW hS
  refine lv_fconst1 C.1 C.2.1 hd ?_
  exact k p l e s0 s m args below meth c H locs ls _ C D hl ⟨rfl, hs⟩ hW hS
theorem Cx.drawn {p : Program} {l : Launch} {s0 : State} {d1 d2 : Drawn} {m : MethodId} {meth : Method} {c : Code} (h : Cx G mi p l (s0.setDrawn d1) m meth c) : Cx G mi p l (s0.setDrawn d2) m meth c :=
  ⟨h.1, h.2.1, h.2.2.1, h.2.2.2.1, h.2.2.2.2.1, h.2.2.2.2.2.1, h.2.2.2.2.2.2.1, h.2.2.2.2.2.2.2.1, h.2.2.2.2.2.2.2.2.moved (U := s0.setDrawn d2) (State.WarmedH.refl (s0.setDrawn d1)) rfl va_S.rf⟩
theorem R_ddiv {x z : UInt64} (hd : decode mi.2.1 pc = .ok (.ddiv, 1)) (k : ∀ r : UInt64, alike64 r (FP.ddiv x z) = true → Run G true R mi Z cells slots (pc + 1) L (aV (.double r) :: st) M) : Run G true R mi Z cells slots pc L (aV (.double z) :: aV (.double x) :: st) M := by
  intro p l e s0 s m args below meth c H locs ls vs C D hl hs hW hS
  obtain ⟨u, vs0, rfl, hu, hs0⟩ := Rs_cons hs
  cases (show u = _ from hu)
  obtain ⟨w, vs1, rfl, hw, hs1⟩ := Rs_cons hs0
  cases (show w = _ from hw)
  obtain ⟨d0, hd0, rfl⟩ := D
  refine lv_ddiv_any hd0 lw_bits C.1 C.2.1 hd (fun r d1 hal hd1 => ?_)
  exact k r hal p l e s0 (s0.setDrawn d1) m args below meth c H locs ls _ C.drawn ⟨d1, hd1, rfl⟩ hl ⟨rfl, hs1⟩ hW hS
theorem R_fdiv {x z : UInt32} (hd : decode mi.2.1 pc = .ok (.fdiv, 1)) (k : ∀ r : UInt32, alike32 r (FP.fdiv x z) = true → Run G true R mi Z cells slots (pc + 1) L (aV (.float r) :: st) M) : Run G true R mi Z cells slots pc L (aV (.float z) :: aV (.float x) :: st) M := by
  intro p l e s0 s m args below meth c H locs ls vs C D hl hs hW hS
  obtain ⟨u, vs0, rfl, hu, hs0⟩ := Rs_cons hs
  cases (show u = _ from hu)
  obtain ⟨w, vs1, rfl, hw, hs1⟩ := Rs_cons hs0
  cases (show w = _ from hw)
  obtain ⟨d0, hd0, rfl⟩ := D
  refine lv_fdiv_any hd0 lw_bits C.1 C.2.1 hd (fun r d1 hal hd1 => ?_)
  exact k r hal p l e s0 (s0.setDrawn d1) m args below meth c H locs ls _ C.drawn ⟨d1, hd1, rfl⟩ hl ⟨rfl, hs1⟩ hW hS
theorem R_f2d {x : UInt32} (hd : decode mi.2.1 pc = .ok (.f2d, 1)) (k : ∀ r : UInt64, alike64 r (FP.f2d x) = true → Run G true R mi Z cells slots (pc + 1) L (aV (.double r) :: st) M) : Run G true R mi Z cells slots pc L (aV (.float x) :: st) M := by
  intro p l e s0 s m args below meth c H locs ls vs C D hl hs hW hS
  obtain ⟨w, vs1, rfl, hw, hs1⟩ := Rs_cons hs
  cases (show w = _ from hw)
  obtain ⟨d0, hd0, rfl⟩ := D
  refine lv_f2d_any hd0 lw_bits C.1 C.2.1 hd (fun r d1 hal hd1 => ?_)
  exact k r hal p l e s0 (s0.setDrawn d1) m args below meth c H locs ls _ C.drawn ⟨d1, hd1, rfl⟩ hl ⟨rfl, hs1⟩ hW hS
theorem E_dret {v : UInt64} (hd : decode mi.2.1 pc = .ok (.dreturn, 1)) (hrt : mi.2.2.2.1 = some .double) (hP : P (.double v)) (hM : M' = M) : Run G true R mi (ZD G P M') 0 0 pc L [aV (.double v)] M := by
  intro p l e s0 s m args below meth c H locs ls vs CC D hl hs hW hS
  obtain ⟨hx, hb, hmx, hrr, hlk, hown, hst', hxt, hE⟩ := id CC
  obtain ⟨w, vs1, rfl, hw, hs1⟩ := Rs_cons hs
  cases (show w = _ from hw)
  have := Rs_nil hs1
  subst this
  obtain ⟨d0, hd0, rfl⟩ := D
  subst hM
  refine W.endD hd0 ?_
  exact W.dret hx hb (hrr.trans hrt) (fun t ht hWm => ⟨⟨_, rfl, hP, by rw [ht]; exact hW⟩, hS.F ht⟩) hS.fr hd hlk
theorem E_fret {v : UInt32} (hd : decode mi.2.1 pc = .ok (.freturn, 1)) (hrt : mi.2.2.2.1 = some .float) (hP : P (.float v)) (hM : M' = M) : Run G true R mi (ZD G P M') 0 0 pc L [aV (.float v)] M := by
  intro p l e s0 s m args below meth c H locs ls vs CC D hl hs hW hS
  obtain ⟨hx, hb, hmx, hrr, hlk, hown, hst', hxt, hE⟩ := id CC
  obtain ⟨w, vs1, rfl, hw, hs1⟩ := Rs_cons hs
  cases (show w = _ from hw)
  have := Rs_nil hs1
  subst this
  obtain ⟨d0, hd0, rfl⟩ := D
  subst hM
  refine W.endD hd0 ?_
  exact W.fret hx hb (hrr.trans hrt) (fun t ht hWm => ⟨⟨_, rfl, hP, by rw [ht]; exact hW⟩, hS.F ht⟩) hS.fr hd hlk
theorem R_callVD {o ci index : Nat} {C : String} (hd : decode mi.2.1 pc = .ok (.invokevirtual index, 3)) (hc : CtD G mi2 y d (aR o :: As) M P M') (hw : MW mi2 y n) (hv : MV y) (hml : Cond.methodLink mi.1 index y ∈ lw_tbl) (hCL : CL ci C) (ho : isO ci o) (hyC : y.cls = C) (hn : As.length = n)
    (hR : d + 1 ≤ R.frames ∧ 8 + (mi2.2.2.1 + 11) + 37 * d ≤ R.locals ∧ cells ≤ R.cells ∧ slots ≤ R.slots) (hst : 2 * st.length ≤ 8) (hst0 : As.reverse ++ aR o :: st = st0) (k : ∀ v : Value, P v → Run G true R mi Z cells slots (pc + 3) L (aV v :: st) M') : Run G true R mi Z cells slots pc L st0 M := by
  intro p l e s0 s m args below meth c H locs ls vs CC D hl hs hW hS
  obtain ⟨hx, hb, hmx, hr, hlk, hown, hst', hxt, hE⟩ := id CC
  subst hst0
  obtain ⟨us, ws, rfl, hu, hs1, hlu⟩ := Rs_stk hs
  obtain ⟨vs2, rfl, hs2⟩ := Rs_ref hs1
  have hTB := hE.1
  subst hyC
  have hpre : PreV s H y.cls (G.2.2.2.1 o) (PcR G (aR o :: As) M) us := ⟨PcR.blind _ _ _, recv_ok hE hW hCL ho, pre_ok hE hW hS (show Rs G.2.2.2.1 (aR o :: As) (Value.ref (G.2.2.2.1 o) :: us) from ⟨rfl, hu⟩)⟩
  obtain ⟨d0, hd0, rfl⟩ := D
  have hr := va_runV_D (e := e) (R := R) (args := args) (below := below) (meth := meth) (locs := locs) (cells := cells) (slots := slots) (Ts := []) ⟨hx, hb, hmx, hown, fun _ h => nomatch h⟩ (hc l hst') ⟨callB_mk hTB hw ⟨hR.1, hR.2.1⟩ hml, hTB.use hv.1 rfl, hTB.use hv.2 rfl⟩ hpre (g := F0 m pc ls (us.reverse ++ Value.ref (G.2.2.2.1 o) :: vs2)) rfl (hlu.trans hn) hl.1 rfl (lv_room (cat_le hs2 hst)) hd ⟨hR.2.2.1, hR.2.2.2⟩
  intro T hT X
  obtain ⟨v, st₀, t, T', Lx, d1, hd1, h0, X', hL, e1, e2, ⟨⟨v', hv', hP, hWd⟩, hF⟩, stp⟩ := hr T hT X
  cases hv'
  obtain ⟨k1, k2, k3⟩ := vx_keep h0 e1 hS (fun _ _ h => h) (fun _ h => h) hL hF
  obtain ⟨t2, a1, b1⟩ := k v' hP p l e s0 (s0.setDrawn d1) m args below meth c T'.heap (locs ++ Lx) ls (v' :: vs2) CC.drawn ⟨d1, hd0.trans hd1, rfl⟩ hl ⟨rfl, hs2⟩ (by rw [e1]; exact hWd) k3 T' rfl X'
  exact ⟨t2, stp t2 a1, b1⟩
end DRW
