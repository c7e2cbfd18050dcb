/-! ===== contracts and calls ===== -/
def rmD (d mc ms : Nat) : Room := { frames := d, cells := mc, slots := ms, locals := 37 * d }
def Ro (ad : Nat → Nat) : Option AV → Option Value → Prop
  | none, none => True
  | some a, some v => Rv ad a v
  | _, _ => False
def PcR (G : Gl) (As : List AV) (M : Mem) : Array Value → State → Prop := fun v U => (∃ vs : List Value, v = vs.toArray ∧ Rs G.2.2.2.1 As vs) ∧ Wd G M U.heap ∧ En G U
def QcR (G : Gl) (r : Option AV) (M' : Mem) : Array Value → State → Outcome → State → Prop := fun _ st o t => (∃ v, o = .returned v ∧ Ro G.2.2.2.1 r v ∧ Wd G M' t.heap) ∧ va_F (fre G) st t
/-- a method returns r and leaves M', from M, with these arguments, within d frames, and makes nothing -/
def Ct (G : Gl) (mi : MI) (y : MethodName) (d : Nat) (As : List AV) (M : Mem) (r : Option AV) (M' : Mem) : Prop :=
  ∀ l : Launch, l.stackTraces = false → Met l y [Cond.code y mi.2.1 mi.2.2.1 mi.2.2.2.1] (rmD d 0 0) (PcR G As M) (QcR G r M') 0 0 (fre G)
/-- the words of a method -/
def MW (mi : MI) (y : MethodName) (n : Nat) : Prop := Cond.code y mi.2.1 mi.2.2.1 mi.2.2.2.1 ∈ lw_tbl ∧ Cond.initialized y.cls ∈ lw_tbl ∧
  (y.cls ≠ "java/lang/invoke/MethodHandle" ∧ y.cls ≠ "java/lang/invoke/VarHandle" ∧ (parseMethodDescriptor y.desc).map (fun d => d.parameters.length) = some n) ∧ plainName y.cls = true ∧ mi.1 = y.cls
def MV (y : MethodName) : Prop := Cond.instanceMethod y ∈ lw_tbl ∧ Cond.selects y.cls y y ∈ lw_tbl
def MS (y : MethodName) : Prop := Cond.static y ∈ lw_tbl
theorem PcR.blind (G : Gl) (As : List AV) (M : Mem) : FrameBlind (PcR G As M) := fun a U g mk h =>
  ⟨h.1, h.2.1, h.2.2.moved (U := U.calling g mk a) (State.WarmedH.refl U) rfl va_S.rf⟩
theorem callB_mk {R : Room} {s : State} {args : Array Value} {own : String} {index : Nat} {mi2 : MI} {y : MethodName} {n d mc ms : Nat} (hTB : TB s) (hw : MW mi2 y n) (hR : d + 1 ≤ R.frames ∧ 8 + (mi2.2.2.1 + 11) + 37 * d ≤ R.locals) (hl : Cond.methodLink own index y ∈ lw_tbl) :
    CallB R s args own index y mi2.2.1 mi2.2.2.1 mi2.2.2.2.1 [Cond.code y mi2.2.1 mi2.2.2.1 mi2.2.2.2.1] (rmD d mc ms) mc ms n := by
  obtain ⟨h1, h2, h3, h4, -⟩ := hw
  refine ⟨rfl, rfl, hR.1, hR.2, fun w hw a' U hW => ?_, List.mem_cons_self, hTB.use h1 rfl, hTB.use h2 rfl, ⟨h3.1, h3.2.1⟩, fun sig h => ?_, hTB.use hl rfl⟩
  · rw [List.mem_singleton.mp hw]
    exact (hTB.warm hW).use h1 rfl
  · have h5 := h3.2.2
    rw [h] at h5
    exact (Option.some.inj h5).symm
theorem callN_mk {R : Room} {s : State} {args : Array Value} {own host : String} {index : Nat} {mi2 : MI} {y : MethodName} {n d mc ms : Nat} (hTB : TB s) (hw : MW mi2 y n) (hR : d + 1 ≤ R.frames ∧ 8 + (mi2.2.2.1 + 11) + 37 * d ≤ R.locals) (hl : Cond.methodLinkNest own index y host ∈ lw_tbl) :
    va_CN R s args own index y host mi2.2.1 mi2.2.2.1 mi2.2.2.2.1 [Cond.code y mi2.2.1 mi2.2.2.1 mi2.2.2.2.1] (rmD d mc ms) mc ms n := by
  obtain ⟨h1, h2, h3, h4, -⟩ := hw
  refine ⟨⟨rfl, rfl, hR.1, hR.2, fun w hw a' U hW => ?_, List.mem_cons_self⟩, hTB.use h1 rfl, hTB.use h2 rfl, ⟨h3.1, h3.2.1⟩, fun sig h => ?_, hTB.use hl rfl⟩
  · rw [List.mem_singleton.mp hw]
    exact (hTB.warm hW).use h1 rfl
  · have h5 := h3.2.2
    rw [h] at h5
    exact (Option.some.inj h5).symm
theorem Rs_stk {ad : Nat → Nat} {As st : List AV} {vs : List Value} (h : Rs ad (As.reverse ++ st) vs) : ∃ us ws, vs = us.reverse ++ ws ∧ Rs ad As us ∧ Rs ad st ws ∧ us.length = As.length := by
  obtain ⟨us, ws, rfl, h1, h2, h3⟩ := Rs_app h
  have h4 := Rs_rev h1
  rw [List.reverse_reverse] at h4
  exact ⟨us.reverse, ws, by rw [List.reverse_reverse], h4, h2, by rw [List.length_reverse, h3, List.length_reverse]⟩
section CALLS
variable {G : Gl} {fl : Bool} {R : Room} {mi mi2 : MI} {Z : ZT} {cells slots pc : Nat} {L : List (Option AV)} {st st0 : List AV} {M M' : Mem} {r : Option AV} {As : List AV} {y : MethodName} {d index n : Nat}
theorem pre_ok {s : State} {H : Heap} {locs : List Loc} {us : List Value} (hE : En G s) (hW : Wd G M H) (hS : va_S (fre G) s.heap H locs) (hu : Rs G.2.2.2.1 As us) : ∀ U : State, U.heap = H → s.WarmedH U.vm → PcR G As M us.toArray U :=
  fun U hU hWm => ⟨⟨us, rfl, hu⟩, by rw [hU]; exact hW, hE.moved hWm hU hS⟩
theorem recv_ok {s : State} {H : Heap} {ci o : Nat} {C : String} (hE : En G s) (hW : Wd G M H) (hC : CL ci C) (ho : isO ci o) : ∃ cellB : Cell, H[G.2.2.2.1 o]? = some cellB ∧ cellB.vm.isStatics = false ∧ s.vm.findClass C = some cellB.cls := by
  obtain ⟨h11, T, ty, hcl, -⟩ := hC
  obtain ⟨hTB, hK, -, -, -, -, had, -⟩ := hE
  rw [had o (by have := ho.1; unfold NO at this; omega)]
  exact va_recv hK hW.1 hcl (show (wrl G.2.1 G.2.2.1 M)[o]? = some (G.2.2.1 + o, .inr (ci, flds G.2.2.1 M o ci)) from by rw [wrl_at _ _ _ ho.1, cel_obj _ _ _ ho.2 h11])
theorem back_ok {p : Program} {l : Launch} {e : Env} {s0 s : State} {m : MethodId} {args : Array Value} {below : List Frame} {meth : Method} {c : Code} {H : Heap} {locs : List Loc} {ls : Array Slot} {stv rest : List Value} {a : Array Value}
    (C : Cx G mi p l s m meth c) (D : Dr fl s0 s) (hl : Rl G.2.2.2.1 mi.2.2.1 L ls) (hs : Rs G.2.2.2.1 st rest) (hS : va_S (fre G) s.heap H locs)
    (hr : va_Run p l e R s m args below meth c H locs cells slots 0 0 (F0 m pc ls stv) rest (QcR G r M' a) (fre G)) (k : Run G fl R mi Z cells slots (pc + 3) L (r.toList ++ st) M') :
    W p l e R s m args below meth c H locs cells slots (Z below args s0) (F0 m pc ls stv) := by
  intro T hT X
  obtain ⟨v, st₀, t, T', Lx, h0, X', hL, e1, e2, ⟨⟨v', hv, hro, hWd⟩, hz, hk⟩, stp⟩ := hr T hT X
  cases hv
  have hS' : va_S (fre G) s.heap T'.heap (locs ++ Lx) := by
    rw [h0] at hz hk
    refine ⟨Nat.le_trans hS.1 (by rw [e1]; exact hz), fun q h1 h2 => ?_, fun q hq => ?_⟩
    · rw [e1, hk q (Nat.lt_of_lt_of_le h1 hS.1) h2]
      exact hS.2.1 q h1 h2
    · rcases List.mem_append.mp hq with h | h
      · exact hS.2.2 q h
      · exact hL q h
  have hs' : Rs G.2.2.2.1 (r.toList ++ st) (v.toList ++ rest) := by
    cases r with
    | none => cases v with
      | none => exact hs
      | some _ => exact hro.elim
    | some r => cases v with
      | none => exact hro.elim
      | some _ => exact ⟨hro, hs⟩
  obtain ⟨t2, a1, b1⟩ := k p l e s0 s m args below meth c T'.heap (locs ++ Lx) ls _ C D hl hs' (by rw [e1]; exact hWd) hS' T' rfl X'
  exact ⟨t2, stp t2 a1, b1⟩
theorem R_callV {o ci : Nat} {C : String} (hd : decode mi.2.1 pc = .ok (.invokevirtual index, 3)) (hc : Ct G mi2 y d (aR o :: As) M r M') (hw : MW mi2 y n) (hv : MV y) (hml : ML mi.1 index y) (hCL : CL ci C) (ho : isO ci o) (hyC : y.cls = C) (hn : As.length = n)
    (hR : d + 1 ≤ R.frames ∧ 8 + (mi2.2.2.1 + 11) + 37 * d ≤ R.locals ∧ cells ≤ R.cells ∧ slots ≤ R.slots) (hst : 2 * st.length ≤ 8) (hst0 : As.reverse ++ aR o :: st = st0) (k : Run G fl R mi Z cells slots (pc + 3) L (r.toList ++ st) M') : Run G fl R mi Z cells slots pc L st0 M := by
  intro p l e s0 s m args below meth c H locs ls vs CC D hl hs hW hS
  obtain ⟨hx, hb, hmx, hr, hlk, hown, hst', hxt, hE⟩ := id CC
  subst hst0
  obtain ⟨us, ws, rfl, hu, hs1, hlu⟩ := Rs_stk hs
  obtain ⟨vs2, rfl, hs2⟩ := Rs_ref hs1
  have hTB := hE.1
  subst hyC
  have hpre : PreV s H y.cls (G.2.2.2.1 o) (PcR G (aR o :: As) M) us := ⟨PcR.blind _ _ _, recv_ok hE hW hCL ho, pre_ok hE hW hS (show Rs G.2.2.2.1 (aR o :: As) (Value.ref (G.2.2.2.1 o) :: us) from ⟨rfl, hu⟩)⟩
  rcases hml with hml | ⟨host, hml⟩
  · exact back_ok (a := (Value.ref (G.2.2.2.1 o) :: us).toArray) CC D hl hs2 hS (va_runV (Ts := []) ⟨hx, hb, hmx, hown, fun _ h => nomatch h⟩ (hc l hst') ⟨callB_mk hTB hw ⟨hR.1, hR.2.1⟩ hml, hTB.use hv.1 rfl, hTB.use hv.2 rfl⟩ hpre rfl (hlu.trans hn) hl.1 rfl (lv_room (cat_le hs2 hst)) hd ⟨hR.2.2.1, hR.2.2.2⟩) k
  · exact back_ok (a := (Value.ref (G.2.2.2.1 o) :: us).toArray) CC D hl hs2 hS (va_runVN (Ts := []) ⟨hx, hb, hmx, hown, fun _ h => nomatch h⟩ (hc l hst') ⟨callN_mk hTB hw ⟨hR.1, hR.2.1⟩ hml, hTB.use hv.1 rfl, hTB.use hv.2 rfl⟩ hpre rfl (hlu.trans hn) hl.1 rfl (lv_room (cat_le hs2 hst)) hd ⟨hR.2.2.1, hR.2.2.2⟩) k
theorem R_callS (hd : decode mi.2.1 pc = .ok (.invokestatic index, 3)) (hc : Ct G mi2 y d As M r M') (hw : MW mi2 y n) (hv : MS y) (hml : ML mi.1 index y) (hn : As.length = n)
    (hR : d + 1 ≤ R.frames ∧ 8 + (mi2.2.2.1 + 11) + 37 * d ≤ R.locals ∧ cells ≤ R.cells ∧ slots ≤ R.slots) (hst : 2 * st.length ≤ 8) (hst0 : As.reverse ++ st = st0) (k : Run G fl R mi Z cells slots (pc + 3) L (r.toList ++ st) M') : Run G fl R mi Z cells slots pc L st0 M := by
  intro p l e s0 s m args below meth c H locs ls vs CC D hl hs hW hS
  obtain ⟨hx, hb, hmx, hr, hlk, hown, hst', hxt, hE⟩ := id CC
  subst hst0
  obtain ⟨us, ws, rfl, hu, hs2, hlu⟩ := Rs_stk hs
  have hTB := hE.1
  have hpre : PreS s H (PcR G As M) us := ⟨PcR.blind _ _ _, pre_ok hE hW hS hu⟩
  rcases hml with hml | ⟨host, hml⟩
  · exact back_ok (a := us.toArray) CC D hl hs2 hS (va_runS (Ts := []) ⟨hx, hb, hmx, hown, fun _ h => nomatch h⟩ (hc l hst') ⟨callB_mk hTB hw ⟨hR.1, hR.2.1⟩ hml, hTB.use hv rfl⟩ hpre rfl (hlu.trans hn) hl.1 rfl (lv_room (cat_le hs2 hst)) hd ⟨hR.2.2.1, hR.2.2.2⟩) k
  · exact back_ok (a := us.toArray) CC D hl hs2 hS (va_runSN (Ts := []) ⟨hx, hb, hmx, hown, fun _ h => nomatch h⟩ (hc l hst') ⟨callN_mk hTB hw ⟨hR.1, hR.2.1⟩ hml, hTB.use hv rfl, trivial⟩ hpre rfl (hlu.trans hn) hl.1 rfl (lv_room (cat_le hs2 hst)) hd ⟨hR.2.2.1, hR.2.2.2⟩) k
/-- what a method that makes nothing and throws nothing owes -/
def ZP (G : Gl) (r : Option AV) (M' : Mem) : ZT := fun below args s => MQ below (QcR G r M') args s 0 0 (fre G)
theorem va_S.fr {A : Nat → Prop} {H0 H : Heap} {locs : List Loc} (h : va_S A H0 H locs) : ∀ q ∈ locs, A q.base := h.2.2
theorem E_iret {a : Int} (hd : decode mi.2.1 pc = .ok (.ireturn, 1)) (hrt : mi.2.2.2.1 = some .int) (hr : r = some (aI a)) (hM : M' = M) : Run G false R mi (ZP G r M') 0 0 pc L [aI a] M := by
  intro p l e s0 s m args below meth c H locs ls vs CC D hl hs hW hS
  obtain ⟨hx, hb, hmx, hrr, hlk, hown, hst', hxt, hE⟩ := id CC
  obtain ⟨x, vs1, rfl, hxv, hs1⟩ := Rs_int hs
  have := Rs_nil hs1
  subst this
  have hD : s = s0 := D
  subst hD; subst hr; subst hM
  exact W.iret hx hb (hrr.trans hrt) (fun t ht hWm => ⟨⟨_, rfl, hxv, by rw [ht]; exact hW⟩, hS.F ht⟩) hS.fr hd hlk
theorem E_zret {a : Int} (hd : decode mi.2.1 pc = .ok (.ireturn, 1)) (hrt : mi.2.2.2.1 = some .boolean) (h01 : a = 0 ∨ a = 1) (hr : r = some (aI a)) (hM : M' = M) : Run G false R mi (ZP G r M') 0 0 pc L [aI a] M := by
  intro p l e s0 s m args below meth c H locs ls vs CC D hl hs hW hS
  obtain ⟨hx, hb, hmx, hrr, hlk, hown, hst', hxt, hE⟩ := id CC
  obtain ⟨x, vs1, rfl, hxv, hs1⟩ := Rs_int hs
  have := Rs_nil hs1
  subst this
  have hD : s = s0 := D
  subst hD; subst hr; subst hM
  have hn : narrow .boolean (.int x) = .int x := by
    rcases h01 with h | h
    · have : x = 0 := (i_eq hxv i_z).mpr h
      subst this; rfl
    · have : x = 1 := (i_eq hxv (show (1 : Int32).toInt = 1 from rfl)).mpr h
      subst this; rfl
  exact W.zret hx hb (hrr.trans hrt) hn (fun t ht hWm => ⟨⟨_, rfl, hxv, by rw [ht]; exact hW⟩, hS.F ht⟩) hS.fr hd hlk
theorem E_vret (hd : decode mi.2.1 pc = .ok (.return_, 1)) (hrt : mi.2.2.2.1 = none) (hr : r = none) (hM : M' = M) : Run G false R mi (ZP G r M') 0 0 pc L [] M := by
  intro p l e s0 s m args below meth c H locs ls vs CC D hl hs hW hS
  obtain ⟨hx, hb, hmx, hrr, hlk, hown, hst', hxt, hE⟩ := id CC
  have := Rs_nil hs
  subst this
  have hD : s = s0 := D
  subst hD; subst hr; subst hM
  exact W.vret hx hb (hrr.trans hrt) (fun t ht hWm => ⟨⟨_, rfl, trivial, by rw [ht]; exact hW⟩, hS.F ht⟩) hS.fr hd hlk
theorem E_aret {a : Nat} {C : String} (hd : decode mi.2.1 pc = .ok (.areturn, 1)) (hrt : mi.2.2.2.1 = some (.object C)) (hr : r = some (aR a)) (hM : M' = M) : Run G false R mi (ZP G r M') 0 0 pc L [aR a] M := by
  intro p l e s0 s m args below meth c H locs ls vs CC D hl hs hW hS
  obtain ⟨hx, hb, hmx, hrr, hlk, hown, hst', hxt, hE⟩ := id CC
  obtain ⟨vs1, rfl, hs1⟩ := Rs_ref hs
  have := Rs_nil hs1
  subst this
  have hD : s = s0 := D
  subst hD; subst hr; subst hM
  exact W.aret hx hb (hrr.trans hrt) (Or.inl ⟨_, rfl⟩) (Or.inr ⟨_, rfl⟩) (fun t ht hWm => ⟨⟨_, rfl, rfl, by rw [ht]; exact hW⟩, hS.F ht⟩) hS.fr hd hlk
end CALLS
/-! a method's entry -/
theorem lv_args_at : ∀ (vs : List Value) (i0 : Nat), (∀ v ∈ vs, v.category = 1) → ∀ (i : Nat) (v : Value), vs[i]? = some v → (i0 + i, v) ∈ lv_args i0 vs := by
  intro vs
  induction vs with
  | nil => intro i0 _ i v h; simp at h
  | cons w vs ih =>
    intro i0 hc i v h
    unfold lv_args
    cases i with
    | zero =>
      simp at h
      subst h
      exact List.mem_cons_self
    | succ i =>
      have hw := hc w List.mem_cons_self
      rw [if_neg (by omega)]
      have := ih (i0 + 1) (fun v hv => hc v (List.mem_cons_of_mem _ hv)) i v (by simpa using h)
      refine List.mem_cons_of_mem _ ?_
      rw [show i0 + (i + 1) = i0 + 1 + i by omega]
      exact this
theorem lg_sl_len : ∀ (vs : List Value), (∀ v ∈ vs, v.category = 1) → (lg_sl vs).length = vs.length := by
  intro vs
  induction vs with
  | nil => intro _; rfl
  | cons v vs ih =>
    intro h
    have hv := h v List.mem_cons_self
    have := ih (fun v hv => h v (List.mem_cons_of_mem _ hv))
    unfold lg_sl at *
    rw [List.flatMap_cons, if_neg (by omega)]
    simp only [List.length_append, List.length_cons, List.length_nil, this]
    omega
def Rws (ad : Nat → Nat) : List AV → List Value → Prop
  | [], [] => True
  | a :: as, v :: vs => Rw ad a v ∧ Rws ad as vs
  | _, _ => False
/-- numbers and references alone -/
def plainA : List AV → Prop
  | [] => True
  | .inl _ :: as => plainA as
  | .inr (.inl _) :: as => plainA as
  | _ :: _ => False
theorem Rs.ws {ad : Nat → Nat} : ∀ {As : List AV} {vs : List Value}, plainA As → Rs ad As vs → (∀ v ∈ vs, v.category = 1) ∧ ∀ (i : Nat) (a : AV), As[i]? = some a → ∃ v, vs[i]? = some v ∧ Rw ad a v := by
  intro As
  induction As with
  | nil =>
    intro vs _ h
    have := Rs_nil h
    subst this
    exact ⟨fun v hv => by simp at hv, fun i a h => by simp at h⟩
  | cons b As ih =>
    intro vs hp h
    obtain ⟨v, vs', rfl, h1, h2⟩ := Rs_cons h
    have hpq : plainA As ∧ Rw ad b v := by
      rcases b with i | k | w
      · refine ⟨hp, ?_⟩
        obtain ⟨x, rfl, hx⟩ := Rv_int h1
        exact hx
      · refine ⟨hp, ?_⟩
        have := Rv_ref h1
        subst this
        rfl
      · exact hp.elim
    obtain ⟨i1, i2⟩ := ih hpq.1 h2
    refine ⟨fun w hw => ?_, fun i a hi => ?_⟩
    · rcases List.mem_cons.mp hw with rfl | hw
      · exact hpq.2.v.2
      · exact i1 w hw
    · cases i with
      | zero =>
        simp at hi
        subst hi
        exact ⟨v, rfl, hpq.2⟩
      | succ i => exact i2 i a (by simpa using hi)
theorem entry_ok {ad : Nat → Nat} {As : List AV} {vs : List Value} {n : Nat} {L : List (Option AV)} (hp : plainA As) (h : Rs ad As vs) (hn : As.length ≤ n) (hL : lsub L (As.map some)) : Rl ad n L ((lg_sl vs ++ List.replicate (n - (lg_sl vs).length) Slot.unset).toArray) := by
  obtain ⟨h1, h2⟩ := Rs.ws hp h
  have hl := lv_entry vs (n := n) (by rw [lg_sl_len vs h1, Rs_len h]; exact hn)
  refine ⟨hl.1, hl.2.1, fun i a hi => ?_⟩
  have h3 := lsub_at hL i a hi
  rw [List.getElem?_map] at h3
  cases h4 : As[i]? with
  | none => rw [h4] at h3; cases h3
  | some b =>
    rw [h4] at h3
    cases h3
    obtain ⟨v, hv, hr⟩ := h2 i _ h4
    refine ⟨v, ?_, hr⟩
    have := lv_args_at vs 0 h1 i v hv
    rw [Nat.zero_add] at this
    exact hl.2.2 _ this
theorem XT_nil {l : Launch} {p : Program} {x : MethodName} {S : Spec} {cc : ByteArray} {maxL : Nat} {ret : Option FieldType} {e : Env} {s s₁ : State} {m : MethodId} {args : Array Value} {below : List Frame} {meth : Method} {c : Code}
    (B : BodyLoose p l x S cc maxL ret e s m args below meth c s₁) (h : (Cond.code x cc maxL ret).before args s = true) : XT c [] := by
  obtain ⟨meth9, c9, h1, h2, -, -, -, -, h7, -⟩ := Cond.code_spec B.named h
  cases Option.some.inj (h1.symm.trans B.method)
  cases Option.some.inj (h2.symm.trans (Stand.of_body B).code)
  unfold XT
  rw [Array.isEmpty_iff.mp h7]
  rfl
theorem Ct.of {G : Gl} {mi : MI} {y : MethodName} {d n : Nat} {As : List AV} {M M' : Mem} {r : Option AV} {L : List (Option AV)} (hw : MW mi y n) (hxt : mi.2.2.2.2 = []) (hp : plainA As) (hn : As.length ≤ mi.2.2.1) (hL : lsub L (As.map some)) (k : Run G false (rmD d 0 0) mi (ZP G r M') 0 0 0 L [] M) : Ct G mi y d As M r M' := by
  intro l hst
  refine Met.ofW (cc := mi.2.1) (maxL := mi.2.2.1) (ret := mi.2.2.2.1) hw.2.2.2.1 rfl ?_
  intro p e s m args below meth c s₁ B hml hv
  obtain ⟨⟨vs, rfl, hvs⟩, hWd, hE⟩ := hv
  have hts := atoms_spec (ws := [Cond.code y mi.2.1 mi.2.2.1 mi.2.2.2.1]) B.pre
  rw [lg_entry_eq]
  refine k p l e s s m vs.toArray below meth c s.heap [] _ [] ⟨B.exec, B.bytes, hml, B.returns, B.notSynchronized, ?_, hst, ?_, hE⟩ rfl (entry_ok hp hvs hn hL) trivial hWd va_S.rf
  · rw [hw.2.2.2.2]; exact findClass_of_methodNamed B.named
  · rw [hxt]; exact XT_nil B (hts _ List.mem_cons_self)
