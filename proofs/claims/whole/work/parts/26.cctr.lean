/-! ===== contracts over a world that is being built ===== -/
def PcC (G : Gl) (As : List AV) (n : Nat) (N : NM) (M : Mem) : Array Value → State → Prop := fun v U => (∃ vs : List Value, v = vs.toArray ∧ Rs G.2.2.2.1 As vs) ∧ WdC G n N M U.heap ∧ En G U ∧ U.heap.size = G.2.2.1 + n ∧ ExC U
def QcC (G : Gl) (r : Option AV) (n : Nat) (N : NM) (M : Mem) : Array Value → State → Outcome → State → Prop := fun _ st o t => (∃ v, o = .returned v ∧ Ro G.2.2.2.1 r v ∧ WdC G n N M t.heap) ∧ va_F (fre G) st t
def CtC (G : Gl) (mi : MI) (y : MethodName) (d mc ms : Nat) (As : List AV) (n : Nat) (N : NM) (M : Mem) (r : Option AV) (n' : Nat) (N' : NM) (M' : Mem) : Prop :=
  ∀ l : Launch, l.stackTraces = false → Met l y [Cond.code y mi.2.1 mi.2.2.1 mi.2.2.2.1] (rmD d mc ms) (PcC G As n N M) (QcC G r n' N' M') mc ms (fre G)
def ZC (G : Gl) (r : Option AV) (n : Nat) (N : NM) (M : Mem) (mc ms : Nat) : ZT := fun below args s => MQ below (QcC G r n N M) args s mc ms (fre G)
theorem PcC.blind (G : Gl) (As : List AV) (n : Nat) (N : NM) (M : Mem) : FrameBlind (PcC G As n N M) := fun a U g mk h =>
  ⟨h.1, h.2.1, h.2.2.1.moved (U := U.calling g mk a) (State.WarmedH.refl U) rfl va_S.rf, h.2.2.2.1, h.2.2.2.2.warm (U := U.calling g mk a) (State.WarmedH.refl U)⟩
section CCT
variable {G : Gl} {n9 n' : Nat} {N9 N' : NM} {fl : Bool} {R : Room} {mi mi2 : MI} {Z : ZT} {cells slots pc : Nat} {L : List (Option AV)} {st st0 : List AV} {M M' : Mem} {r : Option AV} {As : List AV} {y : MethodName} {d index n mc ms : Nat}
theorem CtC.of (hw : MW mi y n) (hxt : mi.2.2.2.2 = []) (hp : plainA As) (hn : As.length ≤ mi.2.2.1) (hL : lsub L (As.map some)) (hfl : fl = true → y.name = "<init>") (k : RunC G n9 N9 fl (rmD d mc ms) mi (ZC G r n' N' M' mc ms) 0 0 0 L [] M) : CtC G mi y d mc ms As n9 N9 M r n' N' M' := by
  intro l hst
  refine Met.ofW (cc := mi.2.1) (maxL := mi.2.2.1) (ret := mi.2.2.2.1) hw.2.2.2.1 rfl ?_
  intro p e s m args below meth c s₁ B hml hv
  obtain ⟨⟨vs, rfl, hvs⟩, hWd, hE, hsz, hEx⟩ := hv
  have hts := atoms_spec (ws := [Cond.code y mi.2.1 mi.2.2.1 mi.2.2.2.1]) B.pre
  rw [lg_entry_eq]
  refine k p l e s s m vs.toArray below meth c s.heap [] _ [] ⟨B.exec, B.bytes, hml, B.returns, B.notSynchronized, ?_, hst, ?_, hE⟩ ⟨rfl, fun h => (name_of_methodNamed B.named B.method).1.trans (hfl h), hsz, hEx⟩ (entry_ok hp hvs hn hL) trivial hWd va_S.rf
  · rw [hw.2.2.2.2]; exact findClass_of_methodNamed B.named
  · rw [hxt]; exact XT_nil B (hts _ List.mem_cons_self)
theorem preC_ok {s : State} {H : Heap} {locs : List Loc} {us : List Value} (hE : En G s) (hEx : ExC s) (hz : H.size = G.2.2.1 + n9) (hW : WdC G n9 N9 M H) (hS : va_S (fre G) s.heap H locs) (hu : Rs G.2.2.2.1 As us) : PreS s H (PcC G As n9 N9 M) us :=
  ⟨PcC.blind _ _ _ _ _, fun U hU hWm => ⟨⟨us, rfl, hu⟩, by rw [hU]; exact hW, hE.moved hWm hU hS, by rw [hU]; exact hz, hEx.warm hWm⟩⟩
theorem backC_ok {p : Program} {l : Launch} {e : Env} {s0 s : State} {m : MethodId} {args : Array Value} {below : List Frame} {meth : Method} {c : Code} {H : Heap} {locs : List Loc} {ls : Array Slot} {stv rest : List Value} {a : Array Value} {T : State}
    (C : Cx G mi p l s m meth c) (D : DrC G n9 cells fl meth s0 s) (hl : Rl G.2.2.2.1 mi.2.2.1 L ls) (hs : Rs G.2.2.2.1 st rest) (hS : va_S (fre G) s.heap H locs) (hn : n' = n9 + mc) (hT : T.heap = H) (X : Stand p l e R s m args below meth c T locs cells slots)
    (hr : va_Run p l e R s m args below meth c H locs cells slots mc ms (F0 m pc ls stv) rest (QcC G r n' N' M' a) (fre G)) (k : RunC G n' N' fl R mi Z (cells + mc) (slots + ms) (pc + 3) L (r.toList ++ st) M') :
    ∃ t, Steps p.tables e below (T.setTop (F0 m pc ls stv)) t ∧ Z below args s0 t := by
  subst hn
  obtain ⟨v, st₀, t, T', Lx, h0, X', hL, e1, e2, ⟨⟨v', hv', hro, hWd⟩, hF⟩, stp⟩ := hr T hT X
  cases hv'
  obtain ⟨k1, k2, k3⟩ := vx_keep h0 e1 hS (fun _ _ h => h) (fun _ h => h) hL hF
  have hs' : Rs G.2.2.2.1 (r.toList ++ st) (v.toList ++ rest) := by
    cases r with
    | none => cases v with
      | none => exact hs
      | some _ => exact hro.elim
    | some r => cases v with
      | none => exact hro.elim
      | some _ => exact ⟨hro, hs⟩
  obtain ⟨t2, a1, b1⟩ := k p l e s0 s m args below meth c T'.heap (locs ++ Lx) ls _ C D.grow hl hs' (by rw [e1]; exact hWd) k3 T' rfl X'
  exact ⟨t2, stp t2 a1, b1⟩
theorem C_callI {o : Nat} (hd : decode mi.2.1 pc = .ok (.invokespecial index, 3)) (hc : CtC G mi2 y d mc ms (aR o :: As) n9 N9 M r n' N' M') (hw : MW mi2 y n) (hret : mi2.2.2.2.1 = none) (hini : y.name = "<init>") (hv : Cond.instanceMethod y ∈ lw_tbl) (hml : ML mi.1 index y) (hn : As.length = n) (hn' : n' = n9 + mc)
    (hR : d + 1 ≤ R.frames ∧ 8 + (mi2.2.2.1 + 11) + 37 * d ≤ R.locals ∧ cells + mc ≤ R.cells ∧ slots + ms ≤ R.slots) (hst : 2 * st.length ≤ 8) (hst0 : As.reverse ++ aR o :: st = st0) (k : RunC G n' N' fl R mi Z (cells + mc) (slots + ms) (pc + 3) L (r.toList ++ st) M') : RunC G n9 N9 fl R mi Z cells slots pc L st0 M := by
  intro p l e s0 s m args below meth c H locs ls vs CC D hl hs hW hS T hT X
  obtain ⟨hx, hb, hmx, hr, hlk, hown, hst', hxt, hE⟩ := id CC
  have hz := sizeC X hT D hW hE
  subst hst0
  obtain ⟨us, ws, rfl, hu, hs1, hlu⟩ := Rs_stk hs
  obtain ⟨vs2, rfl, hs2⟩ := Rs_ref hs1
  have hTB := hE.1
  have hpre : PreS s H (PcC G (aR o :: As) n9 N9 M) (.ref (G.2.2.2.1 o) :: us) := preC_ok hE D.2.2.2 hz hW hS ⟨rfl, hu⟩
  have hcl := hc l hst'
  rw [hret] at hcl
  rcases hml with hml | ⟨host, hml⟩
  · have hcb := callB_mk (args := args) (mc := mc) (ms := ms) hTB hw ⟨hR.1, hR.2.1⟩ hml
    rw [hret] at hcb
    exact backC_ok (a := (Value.ref (G.2.2.2.1 o) :: us).toArray) CC D hl hs2 hS hn' hT X (va_runI (Ts := []) ⟨hx, hb, hmx, hown, fun _ h => nomatch h⟩ hcl ⟨hcb, hini, hTB.use hv rfl⟩ hpre rfl (hlu.trans hn) hl.1 rfl (lv_room (cat_le hs2 hst)) hd ⟨hR.2.2.1, hR.2.2.2⟩) k
  · have hcb := callN_mk (args := args) (mc := mc) (ms := ms) hTB hw ⟨hR.1, hR.2.1⟩ hml
    rw [hret] at hcb
    exact backC_ok (a := (Value.ref (G.2.2.2.1 o) :: us).toArray) CC D hl hs2 hS hn' hT X (va_runIN (Ts := []) ⟨hx, hb, hmx, hown, fun _ h => nomatch h⟩ hcl ⟨hcb, hini, hTB.use hv rfl⟩ hpre rfl (hlu.trans hn) hl.1 rfl (lv_room (cat_le hs2 hst)) hd ⟨hR.2.2.1, hR.2.2.2⟩) k
theorem C_callV {o ci : Nat} {C : String} (hd : decode mi.2.1 pc = .ok (.invokevirtual index, 3)) (hc : CtC G mi2 y d mc ms (aR o :: As) n9 N9 M r n' N' M') (hw : MW mi2 y n) (hv : MV y) (hml : ML mi.1 index y) (hCL : CL ci C) (ho : isO ci o) (hyC : y.cls = C) (hn : As.length = n)
    (hR : d + 1 ≤ R.frames ∧ 8 + (mi2.2.2.1 + 11) + 37 * d ≤ R.locals ∧ cells + mc ≤ R.cells ∧ slots + ms ≤ R.slots) (hst : 2 * st.length ≤ 8) (hst0 : As.reverse ++ aR o :: st = st0) (k : RunC G n' N' fl R mi Z (cells + mc) (slots + ms) (pc + 3) L (r.toList ++ st) M') (hon : o < n9 := by omega) (hn' : n' = n9 + mc := by rfl) : RunC G n9 N9 fl R mi Z cells slots pc L st0 M := by
  intro p l e s0 s m args below meth c H locs ls vs CC D hl hs hW hS T hT X
  obtain ⟨hx, hb, hmx, hr, hlk, hown, hst', hxt, hE⟩ := id CC
  have hz := sizeC X hT D hW hE
  subst hst0
  obtain ⟨us, ws, rfl, hu, hs1, hlu⟩ := Rs_stk hs
  obtain ⟨vs2, rfl, hs2⟩ := Rs_ref hs1
  obtain ⟨hTB, hK, -, -, -, -, had, -⟩ := id hE
  subst hyC
  obtain ⟨h11, T0, ty, hcl, -⟩ := hCL
  have hrec : ∃ cellB : Cell, H[G.2.2.2.1 o]? = some cellB ∧ cellB.vm.isStatics = false ∧ s.vm.findClass y.cls = some cellB.cls := by
    rw [had o (by have := ho.1; unfold NO at this; omega)]
    exact va_recv hK hW.1 hcl (show (wrc G.2.1 G.2.2.1 n9 N9 M)[o]? = some (G.2.2.1 + o, .inr (ci, fldN G.2.2.1 N9 M o ci)) from by rw [wrc_at _ _ _ _ _ hon, ceN_obj _ _ _ _ ho.2 h11])
  have hps := preC_ok (As := aR o :: As) (us := .ref (G.2.2.2.1 o) :: us) hE D.2.2.2 hz hW hS ⟨rfl, hu⟩
  have hpre : PreV s H y.cls (G.2.2.2.1 o) (PcC G (aR o :: As) n9 N9 M) us := ⟨hps.1, hrec, hps.2⟩
  rcases hml with hml | ⟨host, hml⟩
  · exact backC_ok (a := (Value.ref (G.2.2.2.1 o) :: us).toArray) CC D hl hs2 hS hn' hT X (va_runV (Ts := []) ⟨hx, hb, hmx, hown, fun _ h => nomatch h⟩ (hc l hst') ⟨callB_mk hTB hw ⟨hR.1, hR.2.1⟩ hml, hTB.use hv.1 rfl, hTB.use hv.2 rfl⟩ hpre rfl (hlu.trans hn) hl.1 rfl (lv_room (cat_le hs2 hst)) hd ⟨hR.2.2.1, hR.2.2.2⟩) k
  · exact backC_ok (a := (Value.ref (G.2.2.2.1 o) :: us).toArray) CC D hl hs2 hS hn' hT X (va_runVN (Ts := []) ⟨hx, hb, hmx, hown, fun _ h => nomatch h⟩ (hc l hst') ⟨callN_mk hTB hw ⟨hR.1, hR.2.1⟩ hml, hTB.use hv.1 rfl, hTB.use hv.2 rfl⟩ hpre rfl (hlu.trans hn) hl.1 rfl (lv_room (cat_le hs2 hst)) hd ⟨hR.2.2.1, hR.2.2.2⟩) k
theorem C_callS (hd : decode mi.2.1 pc = .ok (.invokestatic index, 3)) (hc : CtC G mi2 y d mc ms As n9 N9 M r n' N' M') (hw : MW mi2 y n) (hv : MS y) (hml : Cond.methodLink mi.1 index y ∈ lw_tbl) (hn : As.length = n)
    (hR : d + 1 ≤ R.frames ∧ 8 + (mi2.2.2.1 + 11) + 37 * d ≤ R.locals ∧ cells + mc ≤ R.cells ∧ slots + ms ≤ R.slots) (hst : 2 * st.length ≤ 8) (hst0 : As.reverse ++ st = st0) (k : RunC G n' N' fl R mi Z (cells + mc) (slots + ms) (pc + 3) L (r.toList ++ st) M') (hn' : n' = n9 + mc := by rfl) : RunC G n9 N9 fl R mi Z cells slots pc L st0 M := by
  intro p l e s0 s m args below meth c H locs ls vs CC D hl hs hW hS T hT X
  obtain ⟨hx, hb, hmx, hr, hlk, hown, hst', hxt, hE⟩ := id CC
  have hz := sizeC X hT D hW hE
  subst hst0
  obtain ⟨us, ws, rfl, hu, hs2, hlu⟩ := Rs_stk hs
  have hTB := hE.1
  exact backC_ok (a := us.toArray) CC D hl hs2 hS hn' hT X (va_runS (Ts := []) ⟨hx, hb, hmx, hown, fun _ h => nomatch h⟩ (hc l hst') ⟨callB_mk hTB hw ⟨hR.1, hR.2.1⟩ hml, hTB.use hv rfl⟩ (preC_ok hE D.2.2.2 hz hW hS hu) rfl (hlu.trans hn) hl.1 rfl (lv_room (cat_le hs2 hst)) hd ⟨hR.2.2.1, hR.2.2.2⟩) k
theorem EC_iret {a : Int} (hd : decode mi.2.1 pc = .ok (.ireturn, 1)) (hrt : mi.2.2.2.1 = some .int) (hr : r = some (aI a)) (hM : M' = M) : RunC G n9 N9 fl R mi (ZC G r n9 N9 M' mc ms) mc ms pc L [aI a] M := by
  intro p l e s0 s m args below meth c H locs ls vs CC D hl hs hW hS
  obtain ⟨hx, hb, hmx, hrr, hlk, hown, hst', hxt, hE⟩ := id CC
  obtain ⟨x, vs1, rfl, hxv, hs1⟩ := Rs_int hs
  have := Rs_nil hs1
  subst this
  have hD : s = s0 := D.1
  subst hD; subst hr; subst hM
  exact W.iret hx hb (hrr.trans hrt) (fun t ht hWm => ⟨⟨_, rfl, hxv, by rw [ht]; exact hW⟩, hS.F ht⟩) hS.fr hd hlk
theorem EC_vret (hd : decode mi.2.1 pc = .ok (.return_, 1)) (hrt : mi.2.2.2.1 = none) (hr : r = none) (hM : M' = M) : RunC G n9 N9 fl R mi (ZC G r n9 N9 M' mc ms) mc ms pc L [] M := by
  intro p l e s0 s m args below meth c H locs ls vs CC D hl hs hW hS
  obtain ⟨hx, hb, hmx, hrr, hlk, hown, hst', hxt, hE⟩ := id CC
  have := Rs_nil hs
  subst this
  have hD : s = s0 := D.1
  subst hD; subst hr; subst hM
  exact W.vret hx hb (hrr.trans hrt) (fun t ht hWm => ⟨⟨_, rfl, trivial, by rw [ht]; exact hW⟩, hS.F ht⟩) hS.fr hd hlk
theorem C_subk {L' : List (Option AV)} (k : RunC G n9 N9 fl R mi Z cells slots pc L' st M) (hs : lsub L' L) : RunC G n9 N9 fl R mi Z cells slots pc L st M := C_sub hs k
end CCT
