/-! ===== the law's cases with doubles ===== -/
def RunX (G : Gl) (R : Room) (mi : MI) (Z : ZT) (cells slots pc : Nat) (L : List (Option AV)) (st : List AV) (M : Mem) (X : Array Slot → Prop) : Prop :=
  ∀ (p : Program) (l : Launch) (e : Env) (s0 s : State) (m : MethodId) (args : Array Value) (below : List Frame) (meth : Method) (c : Code) (H : Heap) (locs : List Loc) (ls : Array Slot) (vs : List Value),
    Cx G mi p l s m meth c → Dr true s0 s → (Rl G.2.2.2.1 mi.2.2.1 L ls ∧ X ls) → Rs G.2.2.2.1 st vs → Wd G M H → va_S (fre G) s.heap H locs →
    W p l e R s m args below meth c H locs cells slots (Z below args s0) (F0 m pc ls vs)
theorem nan64_dec {w : UInt64} (h : isNaN64 w = true) : FP.Core.decode FP.Core.b64 w.toNat = .nan := by
  rw [isNaN64_iff] at h
  rw [show (0x7fffffffffffffff : Nat) = 2 ^ 63 - 1 from rfl, Nat.and_two_pow_sub_one_eq_mod] at h
  unfold FP.Core.decode
  have e1 : FP.Core.fieldE FP.Core.b64 w.toNat = w.toNat / 4503599627370496 % 2048 := rfl
  have e2 : FP.Core.fieldT FP.Core.b64 w.toNat = w.toNat % 4503599627370496 := rfl
  have e3 : FP.Core.b64.exps - 1 = 2047 := rfl
  rw [e1, e2, e3]
  have hE : w.toNat / 4503599627370496 % 2048 = 2047 := by omega
  have hT : ¬ w.toNat % 4503599627370496 = 0 := by omega
  rw [if_pos hE, if_neg hT]
theorem nan32_dec {w : UInt32} (h : isNaN32 w = true) : FP.Core.decode FP.Core.b32 w.toNat = .nan := by
  rw [isNaN32_iff] at h
  rw [show (0x7fffffff : Nat) = 2 ^ 31 - 1 from rfl, Nat.and_two_pow_sub_one_eq_mod] at h
  unfold FP.Core.decode
  have e1 : FP.Core.fieldE FP.Core.b32 w.toNat = w.toNat / 8388608 % 256 := rfl
  have e2 : FP.Core.fieldT FP.Core.b32 w.toNat = w.toNat % 8388608 := rfl
  have e3 : FP.Core.b32.exps - 1 = 255 := rfl
  rw [e1, e2, e3]
  have hE : w.toNat / 8388608 % 256 = 255 := by omega
  have hT : ¬ w.toNat % 8388608 = 0 := by omega
  rw [if_pos hE, if_neg hT]
theorem dcmp_nan {w z : UInt64} (h : isNaN64 w = true) : FP.dcmp w z = none := by
  show FP.Core.order (FP.Core.decode FP.Core.b64 w.toNat) (FP.Core.decode FP.Core.b64 z.toNat) = none
  rw [nan64_dec h]
  rfl
/-- what the law's comparison of two doubles asks: equal, or neither equals itself -/
def dOK (w z : UInt64) : Prop := (Op.cmpValue (FP.dcmp w z) CmpOp.l).toInt = 0 ∨ (¬ (Op.cmpValue (FP.dcmp w w) CmpOp.l).toInt = 0 ∧ ¬ (Op.cmpValue (FP.dcmp z z) CmpOp.l).toInt = 0)
theorem dOK_nan {w z : UInt64} (h1 : isNaN64 w = true) (h2 : isNaN64 z = true) : dOK w z := by
  refine Or.inr ⟨?_, ?_⟩
  · rw [dcmp_nan h1]; decide
  · rw [dcmp_nan h2]; decide
theorem dOK_eq (w : UInt64) : dOK w w := by
  by_cases h : (Op.cmpValue (FP.dcmp w w) CmpOp.l).toInt = 0
  · exact Or.inl h
  · exact Or.inr ⟨h, h⟩
theorem dOK_alike {w z x : UInt64} (h1 : alike64 w x = true) (h2 : alike64 z x = true) : dOK w z := by
  unfold alike64 at h1 h2
  simp only [Bool.or_eq_true, decide_eq_true_eq, Bool.and_eq_true] at h1 h2
  rcases h1 with h1 | ⟨h1, h3⟩
  · rcases h2 with h2 | ⟨h2, h4⟩
    · rw [h1, h2]; exact dOK_eq x
    · rw [h1]; exact dOK_nan h4 h2
  · rcases h2 with h2 | ⟨h2, h4⟩
    · rw [h2]; exact dOK_nan h1 h3
    · exact dOK_nan h1 h2
section DBL
variable {G : Gl} {R : Room} {mi mi2 : MI} {Z : ZT} {cells slots pc : Nat} {L L' : List (Option AV)} {st st0 : List AV} {M M' : Mem} {X : Array Slot → Prop}
theorem X_of (k : Run G true R mi Z cells slots pc L st M) : RunX G R mi Z cells slots pc L st M X := fun p l e s0 s m args below meth c H locs ls vs C D hl => k p l e s0 s m args below meth c H locs ls vs C D hl.1
theorem X_aload_n {j : Fin 4} {i : Nat} {a : Nat} (hd : decode mi.2.1 pc = .ok (.aload_n j, 1)) (hi : (j : Nat) = i) (hL : L[i]? = some (some (aR a))) (k : RunX G R mi Z cells slots (pc + 1) L (aR a :: st) M X) : RunX G R mi Z cells slots pc L st M X := by
  intro p l e s0 s m args below meth c H locs ls vs C D hl hs hW hS
  obtain ⟨v, hv, hr⟩ := hl.1.2.2 i _ hL
  have := Rv_ref hr.v.1
  subst this
  refine lv_aload_n C.1 C.2.1 hd hi hv ?_
  exact k p l e s0 s m args below meth c H locs ls _ C D hl ⟨rfl, hs⟩ hW hS
theorem X_goto {off : Int} {tgt : Nat} (hd : decode mi.2.1 pc = .ok (.goto off, 3)) (ht : (pc : Int) + off = (tgt : Int)) (k : RunX G R mi Z cells slots tgt L st M X) : RunX G R mi Z cells slots pc L st M X := by
  intro p l e s0 s m args below meth c H locs ls vs C D hl hs hW hS
  refine lv_goto C.1 C.2.1 hd ht ?_
  exact k p l e s0 s m args below meth c H locs ls _ C D hl hs hW hS
theorem X_if_eq {a : Int} {off : Int} {tgt : Nat} (hd : decode mi.2.1 pc = .ok (.ifCond .eq off, 3)) (ht : (pc : Int) + off = (tgt : Int)) (k1 : a = 0 → RunX G R mi Z cells slots tgt L st M X) (k2 : ¬ a = 0 → RunX G R mi Z cells slots (pc + 3) L st M X) : RunX G R mi Z cells slots pc L (aI a :: st) M X := by
  intro p l e s0 s m args below meth c H locs ls vs C D hl hs hW hS
  obtain ⟨x, vs2, rfl, hx, hs1⟩ := Rs_int hs
  refine lv_if_eq (tgt := tgt) C.1 C.2.1 hd ht (fun h => ?_) (fun h => ?_)
  · exact k1 ((i_eq hx i_z).mp h) p l e s0 s m args below meth c H locs ls _ C D hl hs1 hW hS
  · exact k2 (fun q => h ((i_eq hx i_z).mpr q)) p l e s0 s m args below meth c H locs ls _ C D hl hs1 hW hS
theorem X_if_ne {a : Int} {off : Int} {tgt : Nat} (hd : decode mi.2.1 pc = .ok (.ifCond .ne off, 3)) (ht : (pc : Int) + off = (tgt : Int)) (k1 : ¬ a = 0 → RunX G R mi Z cells slots tgt L st M X) (k2 : a = 0 → RunX G R mi Z cells slots (pc + 3) L st M X) : RunX G R mi Z cells slots pc L (aI a :: st) M X := by
  intro p l e s0 s m args below meth c H locs ls vs C D hl hs hW hS
  obtain ⟨x, vs2, rfl, hx, hs1⟩ := Rs_int hs
  refine lv_if_ne (tgt := tgt) C.1 C.2.1 hd ht (fun h => ?_) (fun h => ?_)
  · exact k1 (fun q => h ((i_eq hx i_z).mpr q)) p l e s0 s m args below meth c H locs ls _ C D hl hs1 hW hS
  · exact k2 ((i_eq hx i_z).mp h) p l e s0 s m args below meth c H locs ls _ C D hl hs1 hW hS
theorem X_dcmp {x z : UInt64} (hd : decode mi.2.1 pc = .ok (.dcmp .l, 1)) (k : RunX G R mi Z cells slots (pc + 1) L (aI (Op.cmpValue (FP.dcmp x z) CmpOp.l).toInt :: st) M X) : RunX G R mi Z cells slots pc L (aV (.double z) :: aV (.double x) :: st) M X := by
  intro p l e s0 s m args below meth c H locs ls vs C D hl hs hW hS
  obtain ⟨u, vs0, rfl, hu, hs0⟩ := Rs_cons hs
  cases (show u = _ from hu)
  obtain ⟨w, vs1, rfl, hw, hs1⟩ := Rs_cons hs0
  cases (show w = _ from hw)
  refine lv_dcmp C.1 C.2.1 hd ?_
  exact k p l e s0 s m args below meth c H locs ls _ C D hl ⟨rfl, hs1⟩ hW hS
theorem X_dload {i : Nat} {w : UInt64} (hd : decode mi.2.1 pc = .ok (.dload i, 2)) (hX : ∀ ls, X ls → ls[i]? = some (.val (.double w))) (k : RunX G R mi Z cells slots (pc + 2) L (aV (.double w) :: st) M X) : RunX G R mi Z cells slots pc L st M X := by
  intro p l e s0 s m args below meth c H locs ls vs C D hl hs hW hS
  refine lv_dload C.1 C.2.1 hd (hX ls hl.2) ?_
  exact k p l e s0 s m args below meth c H locs ls _ C D hl ⟨rfl, hs⟩ hW hS
theorem X_f2d {x : UInt32} (hd : decode mi.2.1 pc = .ok (.f2d, 1)) (k : ∀ r : UInt64, alike64 r (FP.f2d x) = true → RunX G R mi Z cells slots (pc + 1) L (aV (.double r) :: st) M X) : RunX G R mi Z cells slots pc L (aV (.float x) :: st) M X := by
  intro p l e s0 s m args below meth c H locs ls vs C D hl hs hW hS
  obtain ⟨w, vs1, rfl, hw, hs1⟩ := Rs_cons hs
  cases (show w = _ from hw)
  obtain ⟨d0, hd0, rfl⟩ := D
  refine lv_f2d_any hd0 lw_bits C.1 C.2.1 hd (fun r d1 hal hd1 => ?_)
  exact k r hal p l e s0 (s0.setDrawn d1) m args below meth c H locs ls _ C.drawn ⟨d1, hd1, rfl⟩ hl ⟨rfl, hs1⟩ hW hS
theorem Rl_dstore {ad : Nat → Nat} {nL i : Nat} {ls ls' : Array Slot} {x : Value} (h : Rl ad nL L ls) (hL : (L.set i none).set (i + 1) none = L')
    (h' : lv_has ls' nL ((i, x) :: (lvA ls).filter (fun q => !(q.1 == i) && (!(q.1 == i + 1) && !(q.1 + 1 == i && q.2.category == 2))))) : Rl ad nL L' ls' := by
  subst hL
  refine ⟨h'.1, h'.2.1, fun j b hj => ?_⟩
  have hj1 : j ≠ i + 1 := fun e => by
    subst e
    rw [List.getElem?_set_self' ] at hj
    revert hj
    cases (L.set i none)[i + 1]? <;> intro hj <;> cases hj
  rw [List.getElem?_set_ne (Ne.symm hj1)] at hj
  have hj0 : j ≠ i := fun e => by
    subst e
    rw [List.getElem?_set_self' ] at hj
    revert hj
    cases L[j]? <;> intro hj <;> cases hj
  rw [List.getElem?_set_ne (Ne.symm hj0)] at hj
  obtain ⟨v, hv, hr⟩ := h.2.2 j b hj
  refine ⟨v, h'.2.2 (j, v) (List.mem_cons_of_mem _ (List.mem_filter.mpr ⟨lvA_mem hv, ?_⟩)), hr⟩
  have hc := hr.v.2
  simp [hj0, hj1, hc]
theorem X_dstore1 {i : Nat} {w : UInt64} (hd : decode mi.2.1 pc = .ok (.dstore i, 2)) (hi : i + 1 < mi.2.2.1) (hL : (L.set i none).set (i + 1) none = L') (k : RunX G R mi Z cells slots (pc + 2) L' st M (fun ls => ls[i]? = some (.val (.double w)))) : Run G true R mi Z cells slots pc L (aV (.double w) :: st) M := by
  intro p l e s0 s m args below meth c H locs ls vs C D hl hs hW hS
  obtain ⟨u, vs1, rfl, hu, hs1⟩ := Rs_cons hs
  cases (show u = _ from hu)
  refine lv_dstore C.1 C.2.1 hd (lvA_has hl) hi rfl (fun ls' h' => ?_)
  exact k p l e s0 s m args below meth c H locs ls' _ C D ⟨Rl_dstore hl hL h', h'.2.2 (i, .double w) List.mem_cons_self⟩ hs1 hW hS
theorem X_dstore2 {i j : Nat} {w u : UInt64} (hd : decode mi.2.1 pc = .ok (.dstore i, 2)) (hi : i + 1 < mi.2.2.1) (hij : j + 1 < i) (hL : (L.set i none).set (i + 1) none = L') (k : RunX G R mi Z cells slots (pc + 2) L' st M (fun ls => ls[j]? = some (.val (.double u)) ∧ ls[i]? = some (.val (.double w)))) : RunX G R mi Z cells slots pc L (aV (.double w) :: st) M (fun ls => ls[j]? = some (.val (.double u))) := by
  intro p l e s0 s m args below meth c H locs ls vs C D hl hs hW hS
  obtain ⟨u0, vs1, rfl, hu, hs1⟩ := Rs_cons hs
  cases (show u0 = _ from hu)
  refine lv_dstore C.1 C.2.1 hd (lvA_has hl.1) hi rfl (fun ls' h' => ?_)
  refine k p l e s0 s m args below meth c H locs ls' _ C D ⟨Rl_dstore hl.1 hL h', h'.2.2 (j, .double u) (List.mem_cons_of_mem _ (List.mem_filter.mpr ⟨lvA_mem hl.2, ?_⟩)), h'.2.2 (i, .double w) List.mem_cons_self⟩ hs1 hW hS
  simp
  omega
theorem X_callVD {o ci index d n : Nat} {C : String} {As : List AV} {y : MethodName} {P : Value → Prop} (hd : decode mi.2.1 pc = .ok (.invokevirtual index, 3)) (hc : CtD G mi2 y d (aR o :: As) M P M') (hw : MW mi2 y n) (hv : MV y) (hml : Cond.methodLink mi.1 index y ∈ lw_tbl) (hCL : CL ci C) (ho : isO ci o) (hyC : y.cls = C) (hn : As.length = n)
    (hR : d + 1 ≤ R.frames ∧ 8 + (mi2.2.2.1 + 11) + 37 * d ≤ R.locals ∧ cells ≤ R.cells ∧ slots ≤ R.slots) (hst : 2 * st.length ≤ 8) (hst0 : As.reverse ++ aR o :: st = st0) (k : ∀ v : Value, P v → RunX G R mi Z cells slots (pc + 3) L (aV v :: st) M' X) : RunX G R mi Z cells slots pc L st0 M X := by
  intro p l e s0 s m args below meth c H locs ls vs CC D hl hs hW hS
  obtain ⟨hx, hb, hmx, hr, hlk, hown, hst', hxt, hE⟩ := id CC
  subst hst0
  obtain ⟨us, ws, rfl, hu, hs1, hlu⟩ := Rs_stk hs
  obtain ⟨vs2, rfl, hs2⟩ := Rs_ref hs1
  have hTB := hE.1
  subst hyC
  have hpre : PreV s H y.cls (G.2.2.2.1 o) (PcR G (aR o :: As) M) us := ⟨PcR.blind _ _ _, recv_ok hE hW hCL ho, pre_ok hE hW hS (show Rs G.2.2.2.1 (aR o :: As) (Value.ref (G.2.2.2.1 o) :: us) from ⟨rfl, hu⟩)⟩
  obtain ⟨d0, hd0, rfl⟩ := D
  have hr := va_runV_D (e := e) (R := R) (args := args) (below := below) (meth := meth) (locs := locs) (cells := cells) (slots := slots) (Ts := []) ⟨hx, hb, hmx, hown, fun _ h => nomatch h⟩ (hc l hst') ⟨callB_mk hTB hw ⟨hR.1, hR.2.1⟩ hml, hTB.use hv.1 rfl, hTB.use hv.2 rfl⟩ hpre (g := F0 m pc ls (us.reverse ++ Value.ref (G.2.2.2.1 o) :: vs2)) rfl (hlu.trans hn) hl.1.1 rfl (lv_room (cat_le hs2 hst)) hd ⟨hR.2.2.1, hR.2.2.2⟩
  intro T hT X1
  obtain ⟨v, st₀, t, T', Lx, d1, hd1, h0, X', hL, e1, e2, ⟨⟨v', hv', hP, hWd⟩, hF⟩, stp⟩ := hr T hT X1
  cases hv'
  obtain ⟨k1, k2, k3⟩ := vx_keep h0 e1 hS (fun _ _ h => h) (fun _ h => h) hL hF
  obtain ⟨t2, a1, b1⟩ := k v' hP p l e s0 (s0.setDrawn d1) m args below meth c T'.heap (locs ++ Lx) ls (v' :: vs2) CC.drawn ⟨d1, hd0.trans hd1, rfl⟩ hl ⟨rfl, hs2⟩ (by rw [e1]; exact hWd) k3 T' rfl X'
  exact ⟨t2, stp t2 a1, b1⟩
end DBL
