/-! ===== words of the generated functions ===== -/
def lt1 {α β : Type} (a : α) (k : α → β) : β := k a
theorem ltE {α β : Type} {a : α} {k : α → Option β} {r : β} (h : lt1 a k = some r) : ∃ x, x = a ∧ k x = some r := ⟨a, rfl, h⟩
theorem gdE {β : Type} {c : Prop} [Decidable c] {x : Option β} {r : β} (h : (if c then x else none) = some r) : c ∧ x = some r := by
  by_cases hc : c
  · rw [if_pos hc] at h; exact ⟨hc, h⟩
  · rw [if_neg hc] at h; cases h
theorem gnE {β : Type} {c : Prop} [Decidable c] {x : Option β} {r : β} (h : (if c then none else x) = some r) : ¬ c ∧ x = some r := by
  by_cases hc : c
  · rw [if_pos hc] at h; cases h
  · rw [if_neg hc] at h; exact ⟨hc, h⟩
theorem bdE {α β : Type} {x : Option α} {k : α → Option β} {r : β} (h : x.bind k = some r) : ∃ p, x = some p ∧ k p = some r := by
  cases x with
  | none => cases h
  | some p => exact ⟨p, rfl, h⟩
theorem iposE {β : Type} {c : Prop} [Decidable c] {x y : Option β} {r : β} (h : (if c then x else y) = some r) (hc : c) : x = some r := by rw [if_pos hc] at h; exact h
theorem inegE {β : Type} {c : Prop} [Decidable c] {x y : Option β} {r : β} (h : (if c then x else y) = some r) (hc : ¬ c) : y = some r := by rw [if_neg hc] at h; exact h
theorem nle {a b : Nat} (h : Nat.ble a b = true := by rfl) : a ≤ b := Nat.le_of_ble_eq_true h
def isI (t o : Nat) : Prop := o < NO ∧ (ot o).1 = t
def alen (o : Nat) : Int := ((ot o).2 : Nat)
theorem isI.a {t o : Nat} (h : isI t o) : isA t (ot o).2 o := ⟨h.1, by rw [← h.2]⟩
theorem isA.i {t n o : Nat} (h : isA t n o) : isI t o := ⟨h.1, by rw [h.2]⟩
def isS (s : Nat) : Prop := 200 ≤ s ∧ s < 200 + NS
def slen (s : Nat) : Int := (lenT.getD (s - 200) 0 : Nat)
def sch (s : Nat) (i : Int) : Int := ian ((bytT.getD (s - 200) []).getD i.toNat 0).toInt 255
theorem pgs_h {i : Int} (h0 : 0 ≤ i) (h1 : i < 10) : isO 4 (rfa 21 i.toNat) := by
  have h : ∀ j : Nat, j < 10 → (rfa 21 j < NO ∧ (ot (rfa 21 j)).1 = 4) := by decide
  exact h _ (by omega)
theorem pgs_s {i : Int} (h0 : 0 ≤ i) (h1 : i < 2) : isO 4 (rfa 52 i.toNat) := by
  have h : ∀ j : Nat, j < 2 → (rfa 52 j < NO ∧ (ot (rfa 52 j)).1 = 4) := by decide
  exact h _ (by omega)
section LDC
variable {G : Gl} {fl : Bool} {R : Room} {mi : MI} {Z : ZT} {cells slots pc : Nat} {L : List (Option AV)} {st : List AV} {M : Mem}
theorem R_ldcI {index : Nat} {v : Int} {x : Int32} (hd : decode mi.2.1 pc = .ok (.ldc index, 2)) (hw : Cond.constant mi.1 index x ∈ lw_tbl) (hv : x.toInt = v) (k : Run G fl R mi Z cells slots (pc + 2) L (aI v :: st) M) : Run G fl R mi Z cells slots pc L st M := by
  intro p l e s0 s m args below meth c H locs ls vs C D hl hs hW hS
  obtain ⟨hx, hb, hml, hr, hlk, hown, hst, hxt, hE⟩ := id C
  refine lv_ldc hx hb hown (hE.1.use hw rfl) hd ?_
  exact k p l e s0 s m args below meth c H locs ls _ C D hl ⟨hv, hs⟩ hW hS
theorem R_ldcS {index j k : Nat} {text : String} (hd : decode mi.2.1 pc = .ok (.ldc index, 2)) (hj : strT[j]? = some (mi.1, index, text)) (hk : 200 + j = k) (kk : Run G fl R mi Z cells slots (pc + 2) L (aR k :: st) M) : Run G fl R mi Z cells slots pc L st M := by
  intro p l e s0 s m args below meth c H locs ls vs C D hl hs hW hS T hT X
  obtain ⟨hx, hb, hml, hr, hlk, hown, hst, hxt, hE⟩ := id C
  have hstr := hE.2.2.2.2.1 j _ hj
  subst hk
  obtain ⟨t, a1, b1⟩ := kk p l e s0 s m args below meth c H locs ls (.ref (G.2.2.2.1 (200 + j)) :: vs) C D hl ⟨rfl, hs⟩ hW hS T hT X
  exact ⟨t, X.ldcString hx (own := mi.1) (text := text) (index := index) hown hstr.1 hstr.2 (g := F0 m pc ls vs) rfl (by rw [hb]; exact hd) t a1, b1⟩
theorem R_ldcSW {index j k : Nat} {text : String} (hd : decode mi.2.1 pc = .ok (.ldc_w index, 3)) (hj : strT[j]? = some (mi.1, index, text)) (hk : 200 + j = k) (kk : Run G fl R mi Z cells slots (pc + 3) L (aR k :: st) M) : Run G fl R mi Z cells slots pc L st M := by
  intro p l e s0 s m args below meth c H locs ls vs C D hl hs hW hS T hT X
  obtain ⟨hx, hb, hml, hr, hlk, hown, hst, hxt, hE⟩ := id C
  have hstr := hE.2.2.2.2.1 j _ hj
  subst hk
  obtain ⟨t, a1, b1⟩ := kk p l e s0 s m args below meth c H locs ls (.ref (G.2.2.2.1 (200 + j)) :: vs) C D hl ⟨rfl, hs⟩ hW hS T hT X
  exact ⟨t, X.ldcStringW hx (own := mi.1) (text := text) (index := index) hown hstr.1 hstr.2 (g := F0 m pc ls vs) rfl (by rw [hb]; exact hd) t a1, b1⟩
end LDC
/-! ===== methods that may throw: x is 0 where it returns, else the exception's number ===== -/
def exN (x : Nat) : String := if x = 1 then "java/lang/IndexOutOfBoundsException" else if x = 2 then "java/lang/IllegalArgumentException" else if x = 3 then "java/util/NoSuchElementException" else "java/lang/IllegalStateException"
def QcX (G : Gl) (x : Nat) (r : Option AV) (M' : Mem) : Array Value → State → Outcome → State → Prop := fun a st o t => x = 0 ∧ QcR G r M' a st o t
def XcX (G : Gl) (x : Nat) (M' : Mem) : String → State → State → Prop := fun E st t => x ≠ 0 ∧ E = exN x ∧ Wd G M' t.heap ∧ va_F (fre G) st t
def CtX (G : Gl) (mi : MI) (y : MethodName) (d mc ms : Nat) (As : List AV) (M : Mem) (x : Nat) (r : Option AV) (M' : Mem) : Prop :=
  ∀ l : Launch, l.stackTraces = false → vx_Met l y [Cond.code y mi.2.1 mi.2.2.1 mi.2.2.2.1] (rmD d mc ms) (PcR G As M) (QcX G x r M') (XcX G x M') mc ms (fre G)
def ZX (G : Gl) (mc ms x : Nat) (r : Option AV) (M' : Mem) : ZT := fun below args s => vx_MQ below (QcX G x r M') (XcX G x M') args s mc ms (fre G)
theorem XT_out {c : Code} (h : XT c []) (pc : Nat) : ∀ x ∈ c.exceptionTable.toList, covers x pc = false := by
  unfold XT at h
  rw [List.map_eq_nil_iff.mp h]
  intro x hx
  cases hx
section XS
variable {G : Gl} {R : Room} {mi mi2 : MI} {Z : ZT} {cells slots pc : Nat} {L : List (Option AV)} {st st0 : List AV} {M M' : Mem} {r : Option AV} {As : List AV} {y : MethodName} {d index n mc ms x : Nat}
theorem EX_iret {a : Int} (hd : decode mi.2.1 pc = .ok (.ireturn, 1)) (hrt : mi.2.2.2.1 = some .int) (hx0 : x = 0) (hr : r = some (aI a)) (hM : M' = M) : Run G false R mi (ZX G mc ms x r M') mc ms pc L [aI a] M := by
  intro p l e s0 s m args below meth c H locs ls vs CC D hl hs hW hS
  obtain ⟨hx, hb, hmx, hrr, hlk, hown, hst', hxt, hE⟩ := id CC
  obtain ⟨z, vs1, rfl, hxv, hs1⟩ := Rs_int hs
  have := Rs_nil hs1
  subst this
  have hD : s = s0 := D
  subst hD; subst hr; subst hM; subst hx0
  exact vx_ret (W.iret hx hb (hrr.trans hrt) (fun t ht hWm => ⟨rfl, ⟨_, rfl, hxv, by rw [ht]; exact hW⟩, hS.F ht⟩) hS.fr hd hlk)
theorem EX_zret {a : Int} (hd : decode mi.2.1 pc = .ok (.ireturn, 1)) (hrt : mi.2.2.2.1 = some .boolean) (h01 : a = 0 ∨ a = 1) (hx0 : x = 0) (hr : r = some (aI a)) (hM : M' = M) : Run G false R mi (ZX G mc ms x r M') mc ms pc L [aI a] M := by
  intro p l e s0 s m args below meth c H locs ls vs CC D hl hs hW hS
  obtain ⟨hx, hb, hmx, hrr, hlk, hown, hst', hxt, hE⟩ := id CC
  obtain ⟨z, vs1, rfl, hxv, hs1⟩ := Rs_int hs
  have := Rs_nil hs1
  subst this
  have hD : s = s0 := D
  subst hD; subst hr; subst hM; subst hx0
  have hn : narrow .boolean (.int z) = .int z := by
    rcases h01 with h | h
    · have : z = 0 := (i_eq hxv i_z).mpr h
      subst this; rfl
    · have : z = 1 := (i_eq hxv (show (1 : Int32).toInt = 1 from rfl)).mpr h
      subst this; rfl
  exact vx_ret (W.zret hx hb (hrr.trans hrt) hn (fun t ht hWm => ⟨rfl, ⟨_, rfl, hxv, by rw [ht]; exact hW⟩, hS.F ht⟩) hS.fr hd hlk)
theorem EX_vret (hd : decode mi.2.1 pc = .ok (.return_, 1)) (hrt : mi.2.2.2.1 = none) (hx0 : x = 0) (hM : M' = M) : Run G false R mi (ZX G mc ms x none M') mc ms pc L [] M := by
  intro p l e s0 s m args below meth c H locs ls vs CC D hl hs hW hS
  obtain ⟨hx, hb, hmx, hrr, hlk, hown, hst', hxt, hE⟩ := id CC
  have := Rs_nil hs
  subst this
  have hD : s = s0 := D
  subst hD; subst hM; subst hx0
  exact vx_ret (W.vret hx hb (hrr.trans hrt) (fun t ht hWm => ⟨rfl, ⟨_, rfl, trivial, by rw [ht]; exact hW⟩, hS.F ht⟩) hS.fr hd hlk)
def xnames : List String := ["java/lang/RuntimeException", "java/lang/Exception"]
theorem keptW {H : Heap} {t : State} (hW : Wd G M H) (h : ∀ q : Nat, q < H.size → t.heap[q]? = H[q]?) : Wd G M t.heap := ⟨hW.1.kept (fun k q hk => h q.1 (hW.1 k q hk).lt), hW.2⟩
theorem throw_x {H : Heap} {locs : List Loc} {s : State} {cls : String} (hcls : cls = exN x) (hx0 : x ≠ 0) (hW : Wd G M H) (hS : va_S (fre G) s.heap H locs) : ∀ t : State, s.vm.Alike t.vm → H.size ≤ t.heap.size → (∀ q : Nat, q < H.size → t.heap[q]? = H[q]?) → XcX G x M cls s t :=
  fun t _ h1 h2 => ⟨hx0, hcls, keptW hW h2, Nat.le_trans hS.1 h1, fun q hq hf => by rw [h2 q (Nat.lt_of_lt_of_le hq hS.1)]; exact hS.2.1 q hq hf⟩
/-- the words of an exception's constructor -/
def XW (own : String) (ic : Nat) (cls : String) : Prop := ∀ w ∈ vx_atS own ic cls xnames, w ∈ lw_tbl ∧ tbOK w = true
theorem tbOK_ot {w : Cond} (h : tbOK w = true) : vx_ot w = true := by
  simp only [tbOK, Bool.and_eq_true] at h
  simp [vx_ot, h.1]
theorem R_throw {cls text : String} {ik is ic j : Nat} (d0 : decode mi.2.1 pc = .ok (.new ik, 3)) (d3 : decode mi.2.1 (pc + 3) = .ok (.dup, 1)) (d4 : decode mi.2.1 (pc + 4) = .ok (.ldc is, 2)) (d6 : decode mi.2.1 (pc + 6) = .ok (.invokespecial ic, 3)) (d9 : decode mi.2.1 (pc + 9) = .ok (.athrow, 1))
    (hk : Cond.classLink mi.1 ik cls ∈ lw_tbl) (hxw : XW mi.1 ic cls) (hini : Cond.initialized cls ∈ lw_tbl) (hj : strT[j]? = some (mi.1, is, text)) (hcls : cls = exN x) (hfit : Bundle.fit cls = true) (hx0 : x ≠ 0) (hR : 5 < R.frames) (hRl : 90 ≤ R.locals) (hRc : cells + 1 ≤ R.cells ∧ slots + 6 ≤ R.slots) (hm : cells + 1 ≤ mc ∧ slots + 6 ≤ ms) (hst : st = []) (hxt0 : mi.2.2.2.2 = []) (hMM : M' = M) :
    Run G false R mi (ZX G mc ms x r M') cells slots pc L st M := by
  intro p l e s0 s m args below meth c H locs ls vs CC D hl hs hW hS
  obtain ⟨hx, hb, hmx, hrr, hlk, hown, hst', hxt, hE⟩ := id CC
  obtain ⟨hTB, hK, hz1, hz2, hstr, -⟩ := id hE
  subst hst
  have := Rs_nil hs
  subst this
  have hD : s = s0 := D
  subst hD; subst hMM
  rw [hxt0] at hxt
  refine vx_throwS hx hb hst' hown hfit (names := xnames) (by decide +kernel) (hTB.use hk rfl) (hTB.use hini rfl) (hstr j _ hj) (fun w hw => hTB.use (hxw w hw).1 (hxw w hw).2) (fun w hw => ?_) hz1 hz2 hS (hl.1.trans hmx.symm) d0 d3 d4 d6 d9 (XT_out hxt _) hR (by show 0 + (13 * (2 + 1) + 43) ≤ _; omega) hRc.1 hRc.2 hlk (throw_x hcls hx0 hW hS) hS.fr hm.1 hm.2
  rcases List.mem_cons.mp hw with rfl | hw
  · rfl
  · rcases List.mem_cons.mp hw with rfl | hw
    · rfl
    · exact tbOK_ot (hxw w hw).2
theorem R_throwW {cls text : String} {ik is ic j : Nat} (d0 : decode mi.2.1 pc = .ok (.new ik, 3)) (d3 : decode mi.2.1 (pc + 3) = .ok (.dup, 1)) (d4 : decode mi.2.1 (pc + 4) = .ok (.ldc_w is, 3)) (d7 : decode mi.2.1 (pc + 7) = .ok (.invokespecial ic, 3)) (d10 : decode mi.2.1 (pc + 10) = .ok (.athrow, 1))
    (hk : Cond.classLink mi.1 ik cls ∈ lw_tbl) (hxw : XW mi.1 ic cls) (hini : Cond.initialized cls ∈ lw_tbl) (hj : strT[j]? = some (mi.1, is, text)) (hcls : cls = exN x) (hfit : Bundle.fit cls = true) (hx0 : x ≠ 0) (hR : 5 < R.frames) (hRl : 90 ≤ R.locals) (hRc : cells + 1 ≤ R.cells ∧ slots + 6 ≤ R.slots) (hm : cells + 1 ≤ mc ∧ slots + 6 ≤ ms) (hst : st = []) (hxt0 : mi.2.2.2.2 = []) (hMM : M' = M) :
    Run G false R mi (ZX G mc ms x r M') cells slots pc L st M := by
  intro p l e s0 s m args below meth c H locs ls vs CC D hl hs hW hS
  obtain ⟨hx, hb, hmx, hrr, hlk, hown, hst', hxt, hE⟩ := id CC
  obtain ⟨hTB, hK, hz1, hz2, hstr, -⟩ := id hE
  subst hst
  have := Rs_nil hs
  subst this
  have hD : s = s0 := D
  subst hD; subst hMM
  rw [hxt0] at hxt
  refine vx_throwSW hx hb hst' hown hfit (names := xnames) (by decide +kernel) (hTB.use hk rfl) (hTB.use hini rfl) (hstr j _ hj) (fun w hw => hTB.use (hxw w hw).1 (hxw w hw).2) (fun w hw => ?_) hz1 hz2 hS (hl.1.trans hmx.symm) d0 d3 d4 d7 d10 (XT_out hxt _) hR (by show 0 + (13 * (2 + 1) + 43) ≤ _; omega) hRc.1 hRc.2 hlk (throw_x hcls hx0 hW hS) hS.fr hm.1 hm.2
  rcases List.mem_cons.mp hw with rfl | hw
  · rfl
  · rcases List.mem_cons.mp hw with rfl | hw
    · rfl
    · exact tbOK_ot (hxw w hw).2
theorem R_callVX {o ci mcT msT xT : Nat} {C : String} {rT : Option AV} {MT : Mem} (hd : decode mi.2.1 pc = .ok (.invokevirtual index, 3)) (hc : CtX G mi2 y d mc ms (aR o :: As) M x r M') (hw : MW mi2 y n) (hv : MV y) (hml : Cond.methodLink mi.1 index y ∈ lw_tbl) (hCL : CL ci C) (ho : isO ci o) (hyC : y.cls = C) (hn : As.length = n)
    (hR : d + 1 ≤ R.frames ∧ 8 + (mi2.2.2.1 + 11) + 37 * d ≤ R.locals ∧ cells + mc ≤ R.cells ∧ slots + ms ≤ R.slots) (hst : 2 * st.length ≤ 8) (hst0 : As.reverse ++ aR o :: st = st0) (hxt0 : mi.2.2.2.2 = []) (hmc : cells + mc ≤ mcT) (hms : slots + ms ≤ msT)
    (kx : ¬ x = 0 → xT = x ∧ MT = M') (k : x = 0 → Run G false R mi (ZX G mcT msT xT rT MT) (cells + mc) (slots + ms) (pc + 3) L (r.toList ++ st) M') : Run G false R mi (ZX G mcT msT xT rT MT) cells slots pc L st0 M := by
  intro p l e s0 s m args below meth c H locs ls vs CC D hl hs hW hS
  obtain ⟨hx, hb, hmx, hr, hlk, hown, hst', hxt, hE⟩ := id CC
  subst hst0
  obtain ⟨us, ws, rfl, hu, hs1, hlu⟩ := Rs_stk hs
  obtain ⟨vs2, rfl, hs2⟩ := Rs_ref hs1
  have hTB := hE.1
  have hD : s = s0 := D
  subst hD
  subst hyC
  have hpre : PreV s H y.cls (G.2.2.2.1 o) (PcR G (aR o :: As) M) us := ⟨PcR.blind _ _ _, recv_ok hE hW hCL ho, pre_ok hE hW hS (show Rs G.2.2.2.1 (aR o :: As) (Value.ref (G.2.2.2.1 o) :: us) from ⟨rfl, hu⟩)⟩
  have hr := vx_runV (e := e) (R := R) (args := args) (below := below) (meth := meth) (locs := locs) (Ts := []) ⟨hx, hb, hmx, hown, fun _ h => nomatch h⟩ (hc l hst') ⟨callB_mk hTB hw ⟨hR.1, hR.2.1⟩ hml, hTB.use hv.1 rfl, hTB.use hv.2 rfl⟩ hpre (g := F0 m pc ls (us.reverse ++ Value.ref (G.2.2.2.1 o) :: vs2)) rfl (hlu.trans hn) hl.1 rfl (lv_room (cat_le hs2 hst)) hd ⟨hR.2.2.1, hR.2.2.2⟩
  intro T hT X
  rcases hr T hT X with ⟨v, st₀, t, T', Lx, h0, X', hL, e1, e2, ⟨hx0, ⟨v', hv', hro, hWd⟩, hF⟩, stp⟩ | ⟨q, st₀, t, T', Lx, E, ce, h0, X', hL, e1, e2, ⟨hx0, hEq, hWd, hF⟩, hce, hcv, hcl, stp⟩
  · cases hv'
    obtain ⟨k1, k2, k3⟩ := vx_keep h0 e1 hS (fun _ _ h => h) (fun _ h => h) hL hF
    have hs' : Rs G.2.2.2.1 (r.toList ++ st) (v.toList ++ vs2) := by
      cases r with
      | none => cases v with
        | none => exact hs2
        | some _ => exact hro.elim
      | some r => cases v with
        | none => exact hro.elim
        | some _ => exact ⟨hro, hs2⟩
    obtain ⟨t2, a1, b1⟩ := k hx0 p l e s s m args below meth c T'.heap (locs ++ Lx) ls _ CC rfl hl hs' (by rw [e1]; exact hWd) k3 T' rfl X'
    exact ⟨t2, stp t2 a1, b1⟩
  · obtain ⟨k1, k2, k3⟩ := vx_keep h0 e1 hS (fun _ _ h => h) (fun _ h => h) hL hF
    obtain ⟨ex, eM⟩ := kx hx0
    rw [hxt0] at hxt
    have hW' : Wd G MT T'.heap := by rw [eM, e1]; exact hWd
    obtain ⟨t2, a1, b1⟩ := vx_out (Qc := QcX G xT rT MT) (XC := XcX G xT MT) (rest := vs2) (ls := ls) (args := args) (p := p) (l := l) (e := e) (R := R) (pc := pc) (E := E) (ce := ce) (q := q) (mc := mcT) (ms := msT) (free := fre G) (XT_out hxt pc) hlk (by rw [e1]; exact hce) hcv hcl (fun t' ht' hal => ⟨by rw [ex]; exact hx0, by rw [hEq, ex], by rw [ht']; exact hW', k3.F ht'⟩) k3.fr hmc hms T' rfl X'
    exact ⟨t2, stp.trans a1, b1⟩
theorem CtX.of (hw : MW mi y n) (hxt : mi.2.2.2.2 = []) (hp : plainA As) (hn : As.length ≤ mi.2.2.1) (hL : lsub L (As.map some)) (k : Run G false (rmD d mc ms) mi (ZX G mc ms x r M') 0 0 0 L [] M) : CtX G mi y d mc ms As M x r M' := by
  intro l hst
  refine vx_ofW (cc := mi.2.1) (maxL := mi.2.2.1) (ret := mi.2.2.2.1) hw.2.2.2.1 rfl ?_
  intro p e s m args below meth c s₁ B hml _ hv
  obtain ⟨⟨vs, rfl, hvs⟩, hWd, hE⟩ := hv
  have hts := atoms_spec (ws := [Cond.code y mi.2.1 mi.2.2.1 mi.2.2.2.1]) B.pre
  rw [lg_entry_eq]
  refine k p l e s s m vs.toArray below meth c s.heap [] _ [] ⟨B.exec, B.bytes, hml, B.returns, B.notSynchronized, ?_, hst, ?_, hE⟩ rfl (entry_ok hp hvs hn hL) trivial hWd va_S.rf
  · rw [hw.2.2.2.2]; exact findClass_of_methodNamed B.named
  · rw [hxt]; exact XT_nil B (hts _ List.mem_cons_self)
end XS
