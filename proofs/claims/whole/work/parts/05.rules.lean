/-! ===== the judgement: from this place of a method's code, over the abstract memory, the machine comes to Z ===== -/
abbrev MI : Type := String × ByteArray × Nat × Option FieldType × List (Nat × Nat × Nat × Nat)
abbrev ZT : Type := List Frame → Array Value → State → State → Prop
def Dr (fl : Bool) (s0 s : State) : Prop := match fl with
  | true => ∃ d, s0.drawn.sameBut d lw_cs ∧ s = s0.setDrawn d
  | false => s = s0
def XT (c : Code) (xt : List (Nat × Nat × Nat × Nat)) : Prop := c.exceptionTable.toList.map (fun x => (x.startPc, x.endPc, x.handlerPc, x.catchType)) = xt
def Cx (G : Gl) (mi : MI) (p : Program) (l : Launch) (s : State) (m : MethodId) (meth : Method) (c : Code) : Prop :=
  p.tables.exec = Jvm.exec ∧ c.code = mi.2.1 ∧ c.maxLocals = mi.2.2.1 ∧ meth.sig.returnType = mi.2.2.2.1 ∧ meth.locks = false ∧ s.vm.findClass mi.1 = some m.cls ∧ l.stackTraces = false ∧ XT c mi.2.2.2.2 ∧ En G s
def Run (G : Gl) (fl : Bool) (R : Room) (mi : MI) (Z : ZT) (cells slots pc : Nat) (L : List (Option AV)) (st : List AV) (M : Mem) : Prop :=
  ∀ (p : Program) (l : Launch) (e : Env) (s0 s : State) (m : MethodId) (args : Array Value) (below : List Frame) (meth : Method) (c : Code) (H : Heap) (locs : List Loc) (ls : Array Slot) (vs : List Value),
    Cx G mi p l s m meth c → Dr fl s0 s → Rl G.2.2.2.1 mi.2.2.1 L ls → Rs G.2.2.2.1 st vs → Wd G M H → va_S (fre G) s.heap H locs →
    W p l e R s m args below meth c H locs cells slots (Z below args s0) (F0 m pc ls vs)
theorem i_lt {x y : Int32} {a b : Int} (hx : x.toInt = a) (hy : y.toInt = b) : x < y ↔ a < b := by rw [Int32.lt_iff_toInt_lt, hx, hy]
theorem i_le {x y : Int32} {a b : Int} (hx : x.toInt = a) (hy : y.toInt = b) : x ≤ y ↔ a ≤ b := by rw [Int32.le_iff_toInt_le, hx, hy]
theorem i_eq {x y : Int32} {a b : Int} (hx : x.toInt = a) (hy : y.toInt = b) : x = y ↔ a = b := by rw [← Int32.toInt_inj, hx, hy]
theorem i_z : (0 : Int32).toInt = 0 := rfl
theorem vp_in_int {x : Int32} {a : Int} {n : Nat} (hx : x.toInt = a) (h0 : 0 ≤ a) (h1 : a < n) : vp_in x n := vp_in_iff.mpr ⟨by rw [hx]; exact h0, by rw [hx]; exact h1⟩
theorem clamp_int {x : Int32} {a : Int} (hx : x.toInt = a) (h0 : 0 ≤ a) : ((x.toNatClampNeg : Nat) : Int) = a := by
  have : x.toNatClampNeg = x.toInt.toNat := rfl
  rw [this, hx]; omega
section RUNS
variable {G : Gl} {fl : Bool} {R : Room} {mi : MI} {Z : ZT} {cells slots pc : Nat} {L : List (Option AV)} {st : List AV} {M : Mem}
theorem R_sub {L' : List (Option AV)} (hs : lsub L' L) (k : Run G fl R mi Z cells slots pc L' st M) : Run G fl R mi Z cells slots pc L st M :=
  fun p l e s0 s m args below meth c H locs ls vs C D hl => k p l e s0 s m args below meth c H locs ls vs C D (Rl_sub hl hs)
theorem R_widen {k n : Nat} (h1 : cells ≤ k) (h2 : slots ≤ n) (kk : Run G fl R mi Z k n pc L st M) : Run G fl R mi Z cells slots pc L st M :=
  fun p l e s0 s m args below meth c H locs ls vs C D hl hs hW hS => W.widen h1 h2 (kk p l e s0 s m args below meth c H locs ls vs C D hl hs hW hS)
theorem R_iconst {n v : Int} (hd : decode mi.2.1 pc = .ok (.iconst n, 1)) (hv : (Int32.ofInt n).toInt = v) (k : Run G fl R mi Z cells slots (pc + 1) L (aI v :: st) M) : Run G fl R mi Z cells slots pc L st M := by
  intro p l e s0 s m args below meth c H locs ls vs C D hl hs hW hS
  refine lv_iconst C.1 C.2.1 hd rfl ?_
  exact k p l e s0 s m args below meth c H locs ls _ C D hl ⟨hv, hs⟩ hW hS
theorem R_bipush {n v : Int} (hd : decode mi.2.1 pc = .ok (.bipush n, 2)) (hv : ((Int8.ofInt n).toInt32).toInt = v) (k : Run G fl R mi Z cells slots (pc + 2) L (aI v :: st) M) : Run G fl R mi Z cells slots pc L st M := by
  intro p l e s0 s m args below meth c H locs ls vs C D hl hs hW hS
  refine lv_bipush C.1 C.2.1 hd rfl ?_
  exact k p l e s0 s m args below meth c H locs ls _ C D hl ⟨hv, hs⟩ hW hS
theorem R_sipush {n v : Int} (hd : decode mi.2.1 pc = .ok (.sipush n, 3)) (hv : ((Int16.ofInt n).toInt32).toInt = v) (k : Run G fl R mi Z cells slots (pc + 3) L (aI v :: st) M) : Run G fl R mi Z cells slots pc L st M := by
  intro p l e s0 s m args below meth c H locs ls vs C D hl hs hW hS
  refine lv_sipush C.1 C.2.1 hd rfl ?_
  exact k p l e s0 s m args below meth c H locs ls _ C D hl ⟨hv, hs⟩ hW hS
theorem R_iload_n {j : Fin 4} {i : Nat} {a : Int} (hd : decode mi.2.1 pc = .ok (.iload_n j, 1)) (hi : (j : Nat) = i) (hL : L[i]? = some (some (aI a))) (k : Run G fl R mi Z cells slots (pc + 1) L (aI a :: st) M) : Run G fl R mi Z cells slots pc L st M := by
  intro p l e s0 s m args below meth c H locs ls vs C D hl hs hW hS
  obtain ⟨v, hv, hr⟩ := hl.2.2 i _ hL
  obtain ⟨x, rfl, hx⟩ := Rv_int hr.v.1
  refine lv_iload_n C.1 C.2.1 hd hi hv ?_
  exact k p l e s0 s m args below meth c H locs ls _ C D hl ⟨hx, hs⟩ hW hS
theorem R_iload {i : Nat} {a : Int} (hd : decode mi.2.1 pc = .ok (.iload i, 2)) (hL : L[i]? = some (some (aI a))) (k : Run G fl R mi Z cells slots (pc + 2) L (aI a :: st) M) : Run G fl R mi Z cells slots pc L st M := by
  intro p l e s0 s m args below meth c H locs ls vs C D hl hs hW hS
  obtain ⟨v, hv, hr⟩ := hl.2.2 i _ hL
  obtain ⟨x, rfl, hx⟩ := Rv_int hr.v.1
  refine lv_iload C.1 C.2.1 hd hv ?_
  exact k p l e s0 s m args below meth c H locs ls _ C D hl ⟨hx, hs⟩ hW hS
theorem R_aload_n {j : Fin 4} {i : Nat} {a : Nat} (hd : decode mi.2.1 pc = .ok (.aload_n j, 1)) (hi : (j : Nat) = i) (hL : L[i]? = some (some (aR a))) (k : Run G fl R mi Z cells slots (pc + 1) L (aR a :: st) M) : Run G fl R mi Z cells slots pc L st M := by
  intro p l e s0 s m args below meth c H locs ls vs C D hl hs hW hS
  obtain ⟨v, hv, hr⟩ := hl.2.2 i _ hL
  have := Rv_ref hr.v.1
  subst this
  refine lv_aload_n C.1 C.2.1 hd hi hv ?_
  exact k p l e s0 s m args below meth c H locs ls _ C D hl ⟨rfl, hs⟩ hW hS
theorem R_aload {i : Nat} {a : Nat} (hd : decode mi.2.1 pc = .ok (.aload i, 2)) (hL : L[i]? = some (some (aR a))) (k : Run G fl R mi Z cells slots (pc + 2) L (aR a :: st) M) : Run G fl R mi Z cells slots pc L st M := by
  intro p l e s0 s m args below meth c H locs ls vs C D hl hs hW hS
  obtain ⟨v, hv, hr⟩ := hl.2.2 i _ hL
  have := Rv_ref hr.v.1
  subst this
  refine lv_aload C.1 C.2.1 hd hv ?_
  exact k p l e s0 s m args below meth c H locs ls _ C D hl ⟨rfl, hs⟩ hW hS
theorem R_istore_n {j : Fin 4} {i : Nat} {a : Int} {b : Int} {L' : List (Option AV)} (hd : decode mi.2.1 pc = .ok (.istore_n j, 1)) (hi : (j : Nat) = i) (hi2 : i < mi.2.2.1) (hab : b = a) (hL : L.set i (some (aI b)) = L') (k : Run G fl R mi Z cells slots (pc + 1) L' st M) : Run G fl R mi Z cells slots pc L (aI a :: st) M := by
  intro p l e s0 s m args below meth c H locs ls vs C D hl hs hW hS
  obtain ⟨x, vs1, rfl, hx, hs1⟩ := Rs_int hs
  subst hab
  refine lv_istore_n C.1 C.2.1 hd hi (lvA_has hl) hi2 rfl (fun ls' h' => ?_)
  subst hL
  exact k p l e s0 s m args below meth c H locs ls' _ C D (Rl_store hl (show Rw G.2.2.2.1 (aI b) (.int x) from hx) h') hs1 hW hS
theorem R_istore {i : Nat} {a : Int} {b : Int} {L' : List (Option AV)} (hd : decode mi.2.1 pc = .ok (.istore i, 2)) (hi2 : i < mi.2.2.1) (hab : b = a) (hL : L.set i (some (aI b)) = L') (k : Run G fl R mi Z cells slots (pc + 2) L' st M) : Run G fl R mi Z cells slots pc L (aI a :: st) M := by
  intro p l e s0 s m args below meth c H locs ls vs C D hl hs hW hS
  obtain ⟨x, vs1, rfl, hx, hs1⟩ := Rs_int hs
  subst hab
  refine lv_istore C.1 C.2.1 hd (lvA_has hl) hi2 rfl (fun ls' h' => ?_)
  subst hL
  exact k p l e s0 s m args below meth c H locs ls' _ C D (Rl_store hl (show Rw G.2.2.2.1 (aI b) (.int x) from hx) h') hs1 hW hS
theorem R_astore_n {j : Fin 4} {i : Nat} {a : Nat} {L' : List (Option AV)} (hd : decode mi.2.1 pc = .ok (.astore_n j, 1)) (hi : (j : Nat) = i) (hi2 : i < mi.2.2.1) (hL : L.set i (some (aR a)) = L') (k : Run G fl R mi Z cells slots (pc + 1) L' st M) : Run G fl R mi Z cells slots pc L (aR a :: st) M := by
  intro p l e s0 s m args below meth c H locs ls vs C D hl hs hW hS
  obtain ⟨vs1, rfl, hs1⟩ := Rs_ref hs
  refine lv_astore_n C.1 C.2.1 hd hi (lvA_has hl) hi2 rfl (fun ls' h' => ?_)
  subst hL
  exact k p l e s0 s m args below meth c H locs ls' _ C D (Rl_store hl (show Rw G.2.2.2.1 (aR a) (.ref _) from rfl) h') hs1 hW hS
theorem R_astore {i : Nat} {a : Nat} {L' : List (Option AV)} (hd : decode mi.2.1 pc = .ok (.astore i, 2)) (hi2 : i < mi.2.2.1) (hL : L.set i (some (aR a)) = L') (k : Run G fl R mi Z cells slots (pc + 2) L' st M) : Run G fl R mi Z cells slots pc L (aR a :: st) M := by
  intro p l e s0 s m args below meth c H locs ls vs C D hl hs hW hS
  obtain ⟨vs1, rfl, hs1⟩ := Rs_ref hs
  refine lv_astore C.1 C.2.1 hd (lvA_has hl) hi2 rfl (fun ls' h' => ?_)
  subst hL
  exact k p l e s0 s m args below meth c H locs ls' _ C D (Rl_store hl (show Rw G.2.2.2.1 (aR a) (.ref _) from rfl) h') hs1 hW hS
theorem R_iinc {i : Nat} {n a v : Int} {L' : List (Option AV)} (hd : decode mi.2.1 pc = .ok (.iinc i n, 3)) (hL : L[i]? = some (some (aI a))) (hn : (Int32.ofInt n).toInt = n) (hv : v = w32 (a + n)) (hi2 : i < mi.2.2.1) (hL' : L.set i (some (aI v)) = L') (k : Run G fl R mi Z cells slots (pc + 3) L' st M) : Run G fl R mi Z cells slots pc L st M := by
  intro p l e s0 s m args below meth c H locs ls vs C D hl hs hW hS
  obtain ⟨v0, hv0, hr⟩ := hl.2.2 i _ hL
  obtain ⟨x, rfl, hx⟩ := Rv_int hr.v.1
  obtain ⟨q, hq⟩ := List.getElem?_of_mem (lvA_mem hv0)
  refine lv_iinc C.1 C.2.1 hd (lvA_has hl) hq rfl hi2 rfl (fun ls' h' => ?_)
  subst hL'
  exact k p l e s0 s m args below meth c H locs ls' _ C D (Rl_store hl (show Rw G.2.2.2.1 (aI v) (.int _) from by show (x + Int32.ofInt n).toInt = v; rw [toInt_add, hx, hn, hv]) h') hs hW hS
theorem R_iadd {a b v : Int} (hd : decode mi.2.1 pc = .ok (.iadd, 1)) (hv : v = w32 (a + b)) (k : Run G fl R mi Z cells slots (pc + 1) L (aI v :: st) M) : Run G fl R mi Z cells slots pc L (aI b :: aI a :: st) M := by
  intro p l e s0 s m args below meth c H locs ls vs C D hl hs hW hS
  obtain ⟨y, vs1, rfl, hy, hs⟩ := Rs_int hs
  obtain ⟨x, vs2, rfl, hx, hs1⟩ := Rs_int hs
  refine lv_iadd C.1 C.2.1 hd ?_
  exact k p l e s0 s m args below meth c H locs ls _ C D hl ⟨by show Int32.toInt _ = _; rw [toInt_add, hx, hy, hv], hs1⟩ hW hS
theorem R_isub {a b v : Int} (hd : decode mi.2.1 pc = .ok (.isub, 1)) (hv : v = w32 (a - b)) (k : Run G fl R mi Z cells slots (pc + 1) L (aI v :: st) M) : Run G fl R mi Z cells slots pc L (aI b :: aI a :: st) M := by
  intro p l e s0 s m args below meth c H locs ls vs C D hl hs hW hS
  obtain ⟨y, vs1, rfl, hy, hs⟩ := Rs_int hs
  obtain ⟨x, vs2, rfl, hx, hs1⟩ := Rs_int hs
  refine lv_isub C.1 C.2.1 hd ?_
  exact k p l e s0 s m args below meth c H locs ls _ C D hl ⟨by show Int32.toInt _ = _; rw [toInt_sub, hx, hy, hv], hs1⟩ hW hS
theorem R_imul {a b v : Int} (hd : decode mi.2.1 pc = .ok (.imul, 1)) (hv : v = w32 (a * b)) (k : Run G fl R mi Z cells slots (pc + 1) L (aI v :: st) M) : Run G fl R mi Z cells slots pc L (aI b :: aI a :: st) M := by
  intro p l e s0 s m args below meth c H locs ls vs C D hl hs hW hS
  obtain ⟨y, vs1, rfl, hy, hs⟩ := Rs_int hs
  obtain ⟨x, vs2, rfl, hx, hs1⟩ := Rs_int hs
  refine lv_imul C.1 C.2.1 hd ?_
  exact k p l e s0 s m args below meth c H locs ls _ C D hl ⟨by show Int32.toInt _ = _; rw [toInt_mul, hx, hy, hv], hs1⟩ hW hS
theorem tdiv_in {a b : Int} (ha : inR a) (hb : inR b) (h : b ≠ 0) (h2 : b ≠ -1) : inR (a.tdiv b) := by
  have h1 : (a.tdiv b).natAbs ≤ a.natAbs := by rw [Int.natAbs_tdiv]; exact Nat.div_le_self _ _
  have h3 : 2 ≤ b.natAbs ∨ b.natAbs = 1 := by omega
  unfold inR at *
  rcases h3 with h3 | h3
  · have h4 : (a.tdiv b).natAbs ≤ 1073741824 := by
      rw [Int.natAbs_tdiv]
      calc a.natAbs / b.natAbs ≤ a.natAbs / 2 := Nat.div_le_div_left h3 (by omega)
        _ ≤ 1073741824 := by omega
    omega
  · have h4 : b = 1 := by omega
    subst h4
    rw [Int.tdiv_one]
    exact ha
def idv (a b : Int) : Int := w32 (a.tdiv b)
def irm (a b : Int) : Int := w32 (a - w32 (w32 (a.tdiv b) * b))
theorem toInt_div' (x y : Int32) : (x / y).toInt = idv x.toInt y.toInt := Int32.toInt_div x y
theorem R_idiv {a b v : Int} (hd : decode mi.2.1 pc = .ok (.idiv, 1)) (hb : ¬ b = 0) (hv : v = idv a b) (k : Run G fl R mi Z cells slots (pc + 1) L (aI v :: st) M) : Run G fl R mi Z cells slots pc L (aI b :: aI a :: st) M := by
  intro p l e s0 s m args below meth c H locs ls vs C D hl hs hW hS
  obtain ⟨y, vs1, rfl, hy, hs⟩ := Rs_int hs
  obtain ⟨x, vs2, rfl, hx, hs1⟩ := Rs_int hs
  refine lv_idiv C.1 C.2.1 hd (fun q => hb ((i_eq hy i_z).mp q)) ?_
  exact k p l e s0 s m args below meth c H locs ls _ C D hl ⟨by show Int32.toInt _ = _; rw [toInt_div', hx, hy, hv], hs1⟩ hW hS
theorem R_irem {a b v : Int} (hd : decode mi.2.1 pc = .ok (.irem, 1)) (hb : ¬ b = 0) (hv : v = irm a b) (k : Run G fl R mi Z cells slots (pc + 1) L (aI v :: st) M) : Run G fl R mi Z cells slots pc L (aI b :: aI a :: st) M := by
  intro p l e s0 s m args below meth c H locs ls vs C D hl hs hW hS
  obtain ⟨y, vs1, rfl, hy, hs⟩ := Rs_int hs
  obtain ⟨x, vs2, rfl, hx, hs1⟩ := Rs_int hs
  refine lv_irem C.1 C.2.1 hd (fun q => hb ((i_eq hy i_z).mp q)) ?_
  exact k p l e s0 s m args below meth c H locs ls _ C D hl ⟨by show Int32.toInt _ = _; rw [toInt_sub, toInt_mul, toInt_div', hx, hy, hv]; rfl, hs1⟩ hW hS
theorem R_ineg {a v : Int} (hd : decode mi.2.1 pc = .ok (.ineg, 1)) (hv : v = w32 (-a)) (k : Run G fl R mi Z cells slots (pc + 1) L (aI v :: st) M) : Run G fl R mi Z cells slots pc L (aI a :: st) M := by
  intro p l e s0 s m args below meth c H locs ls vs C D hl hs hW hS
  obtain ⟨x, vs2, rfl, hx, hs⟩ := Rs_int hs
  refine lv_ineg C.1 C.2.1 hd ?_
  exact k p l e s0 s m args below meth c H locs ls _ C D hl ⟨by show Int32.toInt _ = _; rw [toInt_neg, hx, hv], hs⟩ hW hS
def ian (a b : Int) : Int := (Int32.ofInt a &&& Int32.ofInt b).toInt
def isr (a b : Int) : Int := (Int32.ofInt a >>> (Int32.ofInt b &&& 31)).toInt
def ius (a b : Int) : Int := (((Int32.ofInt a).toUInt32 >>> ((Int32.ofInt b).toUInt32 &&& Int32.toUInt32 31)).toInt32).toInt
def itb (a : Int) : Int := ((Int32.ofInt a).toInt8.toInt32).toInt
theorem ofInt_of {x : Int32} {a : Int} (h : x.toInt = a) : Int32.ofInt a = x := by rw [← h, Int32.ofInt_toInt]
theorem R_iand {a b v : Int} (hd : decode mi.2.1 pc = .ok (.iand, 1)) (hv : v = ian a b) (k : Run G fl R mi Z cells slots (pc + 1) L (aI v :: st) M) : Run G fl R mi Z cells slots pc L (aI b :: aI a :: st) M := by
  intro p l e s0 s m args below meth c H locs ls vs C D hl hs hW hS
  obtain ⟨y, vs1, rfl, hy, hs⟩ := Rs_int hs
  obtain ⟨x, vs2, rfl, hx, hs1⟩ := Rs_int hs
  refine lv_iand C.1 C.2.1 hd ?_
  exact k p l e s0 s m args below meth c H locs ls _ C D hl ⟨by show Int32.toInt _ = _; rw [hv]; unfold ian; rw [ofInt_of hx, ofInt_of hy], hs1⟩ hW hS
theorem R_ishr {a b v : Int} (hd : decode mi.2.1 pc = .ok (.ishr, 1)) (hv : v = isr a b) (k : Run G fl R mi Z cells slots (pc + 1) L (aI v :: st) M) : Run G fl R mi Z cells slots pc L (aI b :: aI a :: st) M := by
  intro p l e s0 s m args below meth c H locs ls vs C D hl hs hW hS
  obtain ⟨y, vs1, rfl, hy, hs⟩ := Rs_int hs
  obtain ⟨x, vs2, rfl, hx, hs1⟩ := Rs_int hs
  refine lv_ishr C.1 C.2.1 hd ?_
  exact k p l e s0 s m args below meth c H locs ls _ C D hl ⟨by show Int32.toInt _ = _; rw [hv]; unfold isr; rw [ofInt_of hx, ofInt_of hy], hs1⟩ hW hS
theorem R_iushr {a b v : Int} (hd : decode mi.2.1 pc = .ok (.iushr, 1)) (hv : v = ius a b) (k : Run G fl R mi Z cells slots (pc + 1) L (aI v :: st) M) : Run G fl R mi Z cells slots pc L (aI b :: aI a :: st) M := by
  intro p l e s0 s m args below meth c H locs ls vs C D hl hs hW hS
  obtain ⟨y, vs1, rfl, hy, hs⟩ := Rs_int hs
  obtain ⟨x, vs2, rfl, hx, hs1⟩ := Rs_int hs
  refine lv_iushr C.1 C.2.1 hd rfl ?_
  exact k p l e s0 s m args below meth c H locs ls _ C D hl ⟨by show Int32.toInt _ = _; rw [hv]; unfold ius; rw [ofInt_of hx, ofInt_of hy], hs1⟩ hW hS
theorem R_i2b {a v : Int} (hd : decode mi.2.1 pc = .ok (.i2b, 1)) (hv : v = itb a) (k : Run G fl R mi Z cells slots (pc + 1) L (aI v :: st) M) : Run G fl R mi Z cells slots pc L (aI a :: st) M := by
  intro p l e s0 s m args below meth c H locs ls vs C D hl hs hW hS
  obtain ⟨x, vs2, rfl, hx, hs⟩ := Rs_int hs
  refine lv_i2b C.1 C.2.1 hd rfl ?_
  exact k p l e s0 s m args below meth c H locs ls _ C D hl ⟨by show Int32.toInt _ = _; rw [hv]; unfold itb; rw [ofInt_of hx], hs⟩ hW hS
theorem R_dupI {a : Int} (hd : decode mi.2.1 pc = .ok (.dup, 1)) (k : Run G fl R mi Z cells slots (pc + 1) L (aI a :: aI a :: st) M) : Run G fl R mi Z cells slots pc L (aI a :: st) M := by
  intro p l e s0 s m args below meth c H locs ls vs C D hl hs hW hS
  obtain ⟨x, vs2, rfl, hx, hs⟩ := Rs_int hs
  refine lv_dup C.1 C.2.1 hd rfl ?_
  exact k p l e s0 s m args below meth c H locs ls _ C D hl ⟨hx, hx, hs⟩ hW hS
theorem R_dupR {a : Nat} (hd : decode mi.2.1 pc = .ok (.dup, 1)) (k : Run G fl R mi Z cells slots (pc + 1) L (aR a :: aR a :: st) M) : Run G fl R mi Z cells slots pc L (aR a :: st) M := by
  intro p l e s0 s m args below meth c H locs ls vs C D hl hs hW hS
  obtain ⟨vs2, rfl, hs9⟩ := Rs_ref hs
  refine lv_dup C.1 C.2.1 hd rfl ?_
  exact k p l e s0 s m args below meth c H locs ls _ C D hl ⟨rfl, rfl, hs9⟩ hW hS
theorem R_popI {a : Int} (hd : decode mi.2.1 pc = .ok (.pop, 1)) (k : Run G fl R mi Z cells slots (pc + 1) L st M) : Run G fl R mi Z cells slots pc L (aI a :: st) M := by
  intro p l e s0 s m args below meth c H locs ls vs C D hl hs hW hS
  obtain ⟨x, vs2, rfl, hx, hs⟩ := Rs_int hs
  refine lv_pop C.1 C.2.1 hd rfl ?_
  exact k p l e s0 s m args below meth c H locs ls _ C D hl hs hW hS
theorem R_popR {a : Nat} (hd : decode mi.2.1 pc = .ok (.pop, 1)) (k : Run G fl R mi Z cells slots (pc + 1) L st M) : Run G fl R mi Z cells slots pc L (aR a :: st) M := by
  intro p l e s0 s m args below meth c H locs ls vs C D hl hs hW hS
  obtain ⟨vs2, rfl, hs9⟩ := Rs_ref hs
  refine lv_pop C.1 C.2.1 hd rfl ?_
  exact k p l e s0 s m args below meth c H locs ls _ C D hl hs9 hW hS
theorem R_dup2 {a : Nat} {i : Int} (hd : decode mi.2.1 pc = .ok (.dup2, 1)) (k : Run G fl R mi Z cells slots (pc + 1) L (aI i :: aR a :: aI i :: aR a :: st) M) : Run G fl R mi Z cells slots pc L (aI i :: aR a :: st) M := by
  intro p l e s0 s m args below meth c H locs ls vs C D hl hs hW hS
  obtain ⟨x, vs2, rfl, hx, hs⟩ := Rs_int hs
  obtain ⟨vs3, rfl, hs1⟩ := Rs_ref hs
  refine lv_dup2_11 C.1 C.2.1 hd rfl rfl ?_
  exact k p l e s0 s m args below meth c H locs ls _ C D hl ⟨hx, rfl, hx, rfl, hs1⟩ hW hS
theorem R_goto {off : Int} {tgt : Nat} (hd : decode mi.2.1 pc = .ok (.goto off, 3)) (ht : (pc : Int) + off = (tgt : Int)) (k : Run G fl R mi Z cells slots tgt L st M) : Run G fl R mi Z cells slots pc L st M := by
  intro p l e s0 s m args below meth c H locs ls vs C D hl hs hW hS
  refine lv_goto C.1 C.2.1 hd ht ?_
  exact k p l e s0 s m args below meth c H locs ls _ C D hl hs hW hS
theorem R_ifnull {a : Nat} {off : Int} (hd : decode mi.2.1 pc = .ok (.ifnull off, 3)) (k : Run G fl R mi Z cells slots (pc + 3) L st M) : Run G fl R mi Z cells slots pc L (aR a :: st) M := by
  intro p l e s0 s m args below meth c H locs ls vs C D hl hs hW hS
  obtain ⟨vs3, rfl, hs9⟩ := Rs_ref hs
  refine lv_ifnull C.1 C.2.1 hd ?_
  exact k p l e s0 s m args below meth c H locs ls _ C D hl hs9 hW hS
theorem R_if_eq {a : Int} {off : Int} {tgt : Nat} (hd : decode mi.2.1 pc = .ok (.ifCond .eq off, 3)) (ht : (pc : Int) + off = (tgt : Int)) (kt : a = 0 → Run G fl R mi Z cells slots tgt L st M) (kf : ¬ a = 0 → Run G fl R mi Z cells slots (pc + 3) L st M) : Run G fl R mi Z cells slots pc L (aI a :: st) M := by
  intro p l e s0 s m args below meth c H locs ls vs C D hl hs hW hS
  obtain ⟨x, vs2, rfl, hx, hs⟩ := Rs_int hs
  refine lv_if_eq C.1 C.2.1 hd ht (fun h => ?_) (fun h => ?_)
  · exact kt ((i_eq hx i_z).mp h) p l e s0 s m args below meth c H locs ls _ C D hl hs hW hS
  · exact kf ((not_congr (i_eq hx i_z)).mp h) p l e s0 s m args below meth c H locs ls _ C D hl hs hW hS
theorem R_if_ne {a : Int} {off : Int} {tgt : Nat} (hd : decode mi.2.1 pc = .ok (.ifCond .ne off, 3)) (ht : (pc : Int) + off = (tgt : Int)) (kt : ¬ a = 0 → Run G fl R mi Z cells slots tgt L st M) (kf : a = 0 → Run G fl R mi Z cells slots (pc + 3) L st M) : Run G fl R mi Z cells slots pc L (aI a :: st) M := by
  intro p l e s0 s m args below meth c H locs ls vs C D hl hs hW hS
  obtain ⟨x, vs2, rfl, hx, hs⟩ := Rs_int hs
  refine lv_if_ne C.1 C.2.1 hd ht (fun h => ?_) (fun h => ?_)
  · exact kt ((not_congr (i_eq hx i_z)).mp h) p l e s0 s m args below meth c H locs ls _ C D hl hs hW hS
  · exact kf ((i_eq hx i_z).mp h) p l e s0 s m args below meth c H locs ls _ C D hl hs hW hS
theorem R_if_lt {a : Int} {off : Int} {tgt : Nat} (hd : decode mi.2.1 pc = .ok (.ifCond .lt off, 3)) (ht : (pc : Int) + off = (tgt : Int)) (kt : a < 0 → Run G fl R mi Z cells slots tgt L st M) (kf : ¬ a < 0 → Run G fl R mi Z cells slots (pc + 3) L st M) : Run G fl R mi Z cells slots pc L (aI a :: st) M := by
  intro p l e s0 s m args below meth c H locs ls vs C D hl hs hW hS
  obtain ⟨x, vs2, rfl, hx, hs⟩ := Rs_int hs
  refine lv_if_lt C.1 C.2.1 hd ht (fun h => ?_) (fun h => ?_)
  · exact kt ((i_lt hx i_z).mp h) p l e s0 s m args below meth c H locs ls _ C D hl hs hW hS
  · exact kf ((not_congr (i_lt hx i_z)).mp h) p l e s0 s m args below meth c H locs ls _ C D hl hs hW hS
theorem R_if_ge {a : Int} {off : Int} {tgt : Nat} (hd : decode mi.2.1 pc = .ok (.ifCond .ge off, 3)) (ht : (pc : Int) + off = (tgt : Int)) (kt : 0 ≤ a → Run G fl R mi Z cells slots tgt L st M) (kf : ¬ 0 ≤ a → Run G fl R mi Z cells slots (pc + 3) L st M) : Run G fl R mi Z cells slots pc L (aI a :: st) M := by
  intro p l e s0 s m args below meth c H locs ls vs C D hl hs hW hS
  obtain ⟨x, vs2, rfl, hx, hs⟩ := Rs_int hs
  refine lv_if_ge C.1 C.2.1 hd ht (fun h => ?_) (fun h => ?_)
  · exact kt ((i_le i_z hx).mp h) p l e s0 s m args below meth c H locs ls _ C D hl hs hW hS
  · exact kf ((not_congr (i_le i_z hx)).mp h) p l e s0 s m args below meth c H locs ls _ C D hl hs hW hS
theorem R_if_gt {a : Int} {off : Int} {tgt : Nat} (hd : decode mi.2.1 pc = .ok (.ifCond .gt off, 3)) (ht : (pc : Int) + off = (tgt : Int)) (kt : 0 < a → Run G fl R mi Z cells slots tgt L st M) (kf : ¬ 0 < a → Run G fl R mi Z cells slots (pc + 3) L st M) : Run G fl R mi Z cells slots pc L (aI a :: st) M := by
  intro p l e s0 s m args below meth c H locs ls vs C D hl hs hW hS
  obtain ⟨x, vs2, rfl, hx, hs⟩ := Rs_int hs
  refine lv_if_gt C.1 C.2.1 hd ht (fun h => ?_) (fun h => ?_)
  · exact kt ((i_lt i_z hx).mp h) p l e s0 s m args below meth c H locs ls _ C D hl hs hW hS
  · exact kf ((not_congr (i_lt i_z hx)).mp h) p l e s0 s m args below meth c H locs ls _ C D hl hs hW hS
theorem R_if_le {a : Int} {off : Int} {tgt : Nat} (hd : decode mi.2.1 pc = .ok (.ifCond .le off, 3)) (ht : (pc : Int) + off = (tgt : Int)) (kt : a ≤ 0 → Run G fl R mi Z cells slots tgt L st M) (kf : ¬ a ≤ 0 → Run G fl R mi Z cells slots (pc + 3) L st M) : Run G fl R mi Z cells slots pc L (aI a :: st) M := by
  intro p l e s0 s m args below meth c H locs ls vs C D hl hs hW hS
  obtain ⟨x, vs2, rfl, hx, hs⟩ := Rs_int hs
  refine lv_if_le C.1 C.2.1 hd ht (fun h => ?_) (fun h => ?_)
  · exact kt ((i_le hx i_z).mp h) p l e s0 s m args below meth c H locs ls _ C D hl hs hW hS
  · exact kf ((not_congr (i_le hx i_z)).mp h) p l e s0 s m args below meth c H locs ls _ C D hl hs hW hS
theorem R_icmp_eq {a b : Int} {off : Int} {tgt : Nat} (hd : decode mi.2.1 pc = .ok (.if_icmp .eq off, 3)) (ht : (pc : Int) + off = (tgt : Int)) (kt : a = b → Run G fl R mi Z cells slots tgt L st M) (kf : ¬ a = b → Run G fl R mi Z cells slots (pc + 3) L st M) : Run G fl R mi Z cells slots pc L (aI b :: aI a :: st) M := by
  intro p l e s0 s m args below meth c H locs ls vs C D hl hs hW hS
  obtain ⟨y, vs1, rfl, hy, hs⟩ := Rs_int hs
  obtain ⟨x, vs2, rfl, hx, hs1⟩ := Rs_int hs
  refine lv_icmp_eq C.1 C.2.1 hd ht (fun h => ?_) (fun h => ?_)
  · exact kt ((i_eq hx hy).mp h) p l e s0 s m args below meth c H locs ls _ C D hl hs1 hW hS
  · exact kf ((not_congr (i_eq hx hy)).mp h) p l e s0 s m args below meth c H locs ls _ C D hl hs1 hW hS
theorem R_icmp_ne {a b : Int} {off : Int} {tgt : Nat} (hd : decode mi.2.1 pc = .ok (.if_icmp .ne off, 3)) (ht : (pc : Int) + off = (tgt : Int)) (kt : ¬ a = b → Run G fl R mi Z cells slots tgt L st M) (kf : a = b → Run G fl R mi Z cells slots (pc + 3) L st M) : Run G fl R mi Z cells slots pc L (aI b :: aI a :: st) M := by
  intro p l e s0 s m args below meth c H locs ls vs C D hl hs hW hS
  obtain ⟨y, vs1, rfl, hy, hs⟩ := Rs_int hs
  obtain ⟨x, vs2, rfl, hx, hs1⟩ := Rs_int hs
  refine lv_icmp_ne C.1 C.2.1 hd ht (fun h => ?_) (fun h => ?_)
  · exact kt ((not_congr (i_eq hx hy)).mp h) p l e s0 s m args below meth c H locs ls _ C D hl hs1 hW hS
  · exact kf ((i_eq hx hy).mp h) p l e s0 s m args below meth c H locs ls _ C D hl hs1 hW hS
theorem R_icmp_lt {a b : Int} {off : Int} {tgt : Nat} (hd : decode mi.2.1 pc = .ok (.if_icmp .lt off, 3)) (ht : (pc : Int) + off = (tgt : Int)) (kt : a < b → Run G fl R mi Z cells slots tgt L st M) (kf : ¬ a < b → Run G fl R mi Z cells slots (pc + 3) L st M) : Run G fl R mi Z cells slots pc L (aI b :: aI a :: st) M := by
  intro p l e s0 s m args below meth c H locs ls vs C D hl hs hW hS
  obtain ⟨y, vs1, rfl, hy, hs⟩ := Rs_int hs
  obtain ⟨x, vs2, rfl, hx, hs1⟩ := Rs_int hs
  refine lv_icmp_lt C.1 C.2.1 hd ht (fun h => ?_) (fun h => ?_)
  · exact kt ((i_lt hx hy).mp h) p l e s0 s m args below meth c H locs ls _ C D hl hs1 hW hS
  · exact kf ((not_congr (i_lt hx hy)).mp h) p l e s0 s m args below meth c H locs ls _ C D hl hs1 hW hS
theorem R_icmp_ge {a b : Int} {off : Int} {tgt : Nat} (hd : decode mi.2.1 pc = .ok (.if_icmp .ge off, 3)) (ht : (pc : Int) + off = (tgt : Int)) (kt : b ≤ a → Run G fl R mi Z cells slots tgt L st M) (kf : ¬ b ≤ a → Run G fl R mi Z cells slots (pc + 3) L st M) : Run G fl R mi Z cells slots pc L (aI b :: aI a :: st) M := by
  intro p l e s0 s m args below meth c H locs ls vs C D hl hs hW hS
  obtain ⟨y, vs1, rfl, hy, hs⟩ := Rs_int hs
  obtain ⟨x, vs2, rfl, hx, hs1⟩ := Rs_int hs
  refine lv_icmp_ge C.1 C.2.1 hd ht (fun h => ?_) (fun h => ?_)
  · exact kt ((i_le hy hx).mp h) p l e s0 s m args below meth c H locs ls _ C D hl hs1 hW hS
  · exact kf ((not_congr (i_le hy hx)).mp h) p l e s0 s m args below meth c H locs ls _ C D hl hs1 hW hS
theorem R_icmp_gt {a b : Int} {off : Int} {tgt : Nat} (hd : decode mi.2.1 pc = .ok (.if_icmp .gt off, 3)) (ht : (pc : Int) + off = (tgt : Int)) (kt : b < a → Run G fl R mi Z cells slots tgt L st M) (kf : ¬ b < a → Run G fl R mi Z cells slots (pc + 3) L st M) : Run G fl R mi Z cells slots pc L (aI b :: aI a :: st) M := by
  intro p l e s0 s m args below meth c H locs ls vs C D hl hs hW hS
  obtain ⟨y, vs1, rfl, hy, hs⟩ := Rs_int hs
  obtain ⟨x, vs2, rfl, hx, hs1⟩ := Rs_int hs
  refine lv_icmp_gt C.1 C.2.1 hd ht (fun h => ?_) (fun h => ?_)
  · exact kt ((i_lt hy hx).mp h) p l e s0 s m args below meth c H locs ls _ C D hl hs1 hW hS
  · exact kf ((not_congr (i_lt hy hx)).mp h) p l e s0 s m args below meth c H locs ls _ C D hl hs1 hW hS
theorem R_icmp_le {a b : Int} {off : Int} {tgt : Nat} (hd : decode mi.2.1 pc = .ok (.if_icmp .le off, 3)) (ht : (pc : Int) + off = (tgt : Int)) (kt : a ≤ b → Run G fl R mi Z cells slots tgt L st M) (kf : ¬ a ≤ b → Run G fl R mi Z cells slots (pc + 3) L st M) : Run G fl R mi Z cells slots pc L (aI b :: aI a :: st) M := by
  intro p l e s0 s m args below meth c H locs ls vs C D hl hs hW hS
  obtain ⟨y, vs1, rfl, hy, hs⟩ := Rs_int hs
  obtain ⟨x, vs2, rfl, hx, hs1⟩ := Rs_int hs
  refine lv_icmp_le C.1 C.2.1 hd ht (fun h => ?_) (fun h => ?_)
  · exact kt ((i_le hx hy).mp h) p l e s0 s m args below meth c H locs ls _ C D hl hs1 hW hS
  · exact kf ((not_congr (i_le hx hy)).mp h) p l e s0 s m args below meth c H locs ls _ C D hl hs1 hW hS
theorem R_switchIn {a : Int} {dflt lo hi : Int} {offs : Array Int} {len : Nat} {off : Int} {tgt : Nat} (hd : decode mi.2.1 pc = .ok (.tableswitch dflt lo hi offs, len)) (h1 : ¬ a < lo) (h2 : ¬ hi < a) (ho : offs[(a - lo).toNat]? = some off) (ht : (pc : Int) + off = (tgt : Int)) (k : Run G fl R mi Z cells slots tgt L st M) : Run G fl R mi Z cells slots pc L (aI a :: st) M := by
  intro p l e s0 s m args below meth c H locs ls vs C D hl hs hW hS
  obtain ⟨x, vs2, rfl, hx, hs⟩ := Rs_int hs
  refine lv_tableIn C.1 C.2.1 hd (by rw [hx]; exact h1) (by rw [hx]; exact h2) (by rw [hx]; exact ho) ht ?_
  exact k p l e s0 s m args below meth c H locs ls _ C D hl hs hW hS
theorem R_switchOut {a : Int} {dflt lo hi : Int} {offs : Array Int} {len : Nat} {tgt : Nat} (hd : decode mi.2.1 pc = .ok (.tableswitch dflt lo hi offs, len)) (h : a < lo ∨ hi < a) (ht : (pc : Int) + dflt = (tgt : Int)) (k : Run G fl R mi Z cells slots tgt L st M) : Run G fl R mi Z cells slots pc L (aI a :: st) M := by
  intro p l e s0 s m args below meth c H locs ls vs C D hl hs hW hS
  obtain ⟨x, vs2, rfl, hx, hs⟩ := Rs_int hs
  refine lv_tableOut C.1 C.2.1 hd (by rw [hx]; exact h) ht ?_
  exact k p l e s0 s m args below meth c H locs ls _ C D hl hs hW hS
theorem R_eqM {M' : Mem} (h : M = M') (k : Run G fl R mi Z cells slots pc L st M') : Run G fl R mi Z cells slots pc L st M := by subst h; exact k
end RUNS
