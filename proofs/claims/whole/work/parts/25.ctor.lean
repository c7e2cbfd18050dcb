/-! ===== a world that is being built: n objects stand, references that N names are null still ===== -/
abbrev NM : Type := Nat → Nat → Bool
def clr (N : NM) (a k : Nat) : NM := fun b i => if b = a ∧ i = k then false else N b i
theorem clr_eq (N : NM) (a k : Nat) : clr N a k a k = false := by unfold clr; exact if_pos ⟨rfl, rfl⟩
theorem clr_nb (N : NM) {a k b : Nat} (h : b ≠ a) (i : Nat) : clr N a k b i = N b i := by unfold clr; exact if_neg (fun q => h q.1)
theorem clr_ni (N : NM) {a k i : Nat} (h : i ≠ k) (b : Nat) : clr N a k b i = N b i := by unfold clr; exact if_neg (fun q => h q.2)
def fvN (base : Nat) (N : NM) (M : Mem) (k ci i : Nat) : Value := if (ft ci i).1 ≤ 1 then .int (Int32.ofInt (M k i)) else if N k i = true then .null else .ref (base + rf k ci i)
def fldN (base : Nat) (N : NM) (M : Mem) (k ci : Nat) : List Value := (List.range (nf ci)).map (fvN base N M k ci)
def ceN (ca : Nat → ClassId) (base : Nat) (N : NM) (M : Mem) (k : Nat) : va_E :=
  if (ot k).1 < 11 then .inr ((ot k).1, fldN base N M k (ot k).1)
  else if (ot k).1 = 24 then .inl (ca 4, (ot k).2, .inr (.inl (fun j => (Int32.ofInt (M k (j : Nat))).toInt64)))
  else if (ot k).1 = 23 then .inl (ca 3, (ot k).2, .inr (.inr (.inr (.inr (fun j => if N k j = true then none else some (base + rfa k j))))))
  else .inl (ca ((ot k).1 - 20), (ot k).2, .inl (fun j => Int32.ofInt (M k (j : Nat))))
def wrc (ca : Nat → ClassId) (base n : Nat) (N : NM) (M : Mem) : va_W := (List.range n).map (fun k => (base + k, ceN ca base N M k))
theorem wrc_at (ca : Nat → ClassId) (base n : Nat) (N : NM) (M : Mem) {k : Nat} (h : k < n) : (wrc ca base n N M)[k]? = some (base + k, ceN ca base N M k) := by
  unfold wrc
  rw [List.getElem?_map, List.getElem?_range h]
  rfl
theorem wrc_succ (ca : Nat → ClassId) (base n : Nat) (N : NM) (M : Mem) : wrc ca base (n + 1) N M = wrc ca base n N M ++ [(base + n, ceN ca base N M n)] := by
  unfold wrc
  rw [List.range_succ, List.map_append]
  rfl
theorem wrc_set (ca : Nat → ClassId) (base n : Nat) (N N' : NM) (M M' : Mem) (k : Nat) (e : va_E) (h1 : ceN ca base N' M' k = e) (h2 : ∀ j, j ≠ k → ceN ca base N' M' j = ceN ca base N M j) : (wrc ca base n N M).set k (base + k, e) = wrc ca base n N' M' := by
  unfold wrc
  exact map_range_set _ _ _ _ _ (fun _ => by rw [h1]) (fun j hj => by rw [h2 j hj])
theorem ceN_congr (ca : Nat → ClassId) (base : Nat) {N N' : NM} {M M' : Mem} {k : Nat} (h : ∀ i, M' k i = M k i) (h2 : ∀ i, N' k i = N k i) : ceN ca base N' M' k = ceN ca base N M k := by
  unfold ceN fldN fvN
  simp only [h, h2]
theorem ceN_obj (ca : Nat → ClassId) (base : Nat) (N : NM) (M : Mem) {k ci : Nat} (h : (ot k).1 = ci) (hc : ci < 11) : ceN ca base N M k = .inr (ci, fldN base N M k ci) := by
  unfold ceN
  rw [h, if_pos hc]
theorem ceN_arr (ca : Nat → ClassId) (base : Nat) (N : NM) (M : Mem) {k t n : Nat} (h : ot k = (20 + t, n)) (ht : t < 3) : ceN ca base N M k = .inl (ca t, n, .inl (fun j => Int32.ofInt (M k (j : Nat)))) := by
  unfold ceN
  rw [h]
  simp only
  rw [if_neg (by omega), if_neg (by omega), if_neg (by omega), Nat.add_sub_cancel_left]
theorem ceN_pag (ca : Nat → ClassId) (base : Nat) (N : NM) (M : Mem) {k n : Nat} (h : ot k = (23, n)) : ceN ca base N M k = .inl (ca 3, n, .inr (.inr (.inr (.inr (fun j => if N k j = true then none else some (base + rfa k j)))))) := by
  unfold ceN
  rw [h]
  rfl
theorem ceN_lng (ca : Nat → ClassId) (base : Nat) (N : NM) (M : Mem) {k n : Nat} (h : ot k = (24, n)) : ceN ca base N M k = .inl (ca 4, n, .inr (.inl (fun j => (Int32.ofInt (M k (j : Nat))).toInt64))) := by
  unfold ceN
  rw [h]
  rfl
theorem wrc_D (G : Gl) (n : Nat) (N : NM) (M : Mem) : va_D (fre G) (wrc G.2.1 G.2.2.1 n N M) := by
  have key : ∀ (k : Nat) (q : Nat × va_E), (wrc G.2.1 G.2.2.1 n N M)[k]? = some q → q.1 = G.2.2.1 + k := by
    intro k q h
    have hk : k < n := by
      have := (List.getElem?_eq_some_iff.mp h).1
      simpa [wrc] using this
    rw [wrc_at _ _ _ _ _ hk] at h
    cases h
    rfl
  refine ⟨fun i j p q hi hj hpq => ?_, fun k q h => ?_⟩
  · have := key i p hi
    have := key j q hj
    omega
  · have := key k q h
    show G.2.2.1 ≤ q.1
    omega
theorem wrc_full (ca : Nat → ClassId) (base : Nat) (N : NM) (M : Mem) (h : ∀ k, k < NO → ∀ i, ((ot k).1 < 11 → i < nf (ot k).1 → 1 < (ft (ot k).1 i).1 → N k i = false)) (h2 : ∀ k, k < NO → (ot k).1 = 23 → ∀ i, i < (ot k).2 → N k i = false)
    (hx : ∀ k, k < NO → (ot k).1 = 23 → ∀ i, ¬ i < (ot k).2 → N k i = false) : wrc ca base NO N M = wrl ca base M := by
  unfold wrc wrl
  refine List.map_congr_left (fun k hk => ?_)
  have hk := List.mem_range.mp hk
  congr 1
  unfold ceN cel
  by_cases h1 : (ot k).1 < 11
  · rw [if_pos h1, if_pos h1]
    congr 2
    unfold fldN flds
    refine List.map_congr_left (fun i hi => ?_)
    have hi := List.mem_range.mp hi
    unfold fvN fv
    by_cases h3 : (ft (ot k).1 i).1 ≤ 1
    · rw [if_pos h3, if_pos h3]
    · rw [if_neg h3, if_neg h3, h k hk i h1 hi (by omega)]
      rfl
  · rw [if_neg h1, if_neg h1]
    by_cases h24 : (ot k).1 = 24
    · rw [if_pos h24, if_pos h24]
    · rw [if_neg h24, if_neg h24]
      by_cases h23 : (ot k).1 = 23
      · rw [if_pos h23, if_pos h23]
        have : (fun j => if N k j = true then none else some (base + rfa k j)) = (fun j => some (base + rfa k j)) := by
          funext j
          have hj : N k j = false := by
            by_cases hj : j < (ot k).2
            · exact h2 k hk h23 j hj
            · exact hx k hk h23 j hj
          rw [hj]
          rfl
        rw [this]
      · rw [if_neg h23, if_neg h23]
def WdC (G : Gl) (n : Nat) (N : NM) (M : Mem) (H : Heap) : Prop := va_P G.1 vwCl (wrc G.2.1 G.2.2.1 n N M) H ∧ RM M ∧ (∀ k, n ≤ k → (∀ i, M k i = 0) ∧ ∀ i, N k i = true) ∧ n ≤ NO
/-- words of arrays' classes: they aren't kept as the others are -/
def ExC (s : State) : Prop := va_AO "BracketHall$Page" s ∧ ∀ ty, Cond.arrayClass ty ∈ lw_tbl → (Cond.arrayClass ty).before #[] s = true
theorem ExC.warm {s U : State} (hW : s.WarmedH U.vm) (h : ExC s) : ExC U := ⟨h.1.moved hW.alike, fun ty hty => word_at hW (Or.inr ⟨ty, rfl⟩) (h.2 ty hty)⟩
theorem ExC.arr {s : State} (h : ExC s) {ty : FieldType} (hty : Cond.arrayClass ty ∈ lw_tbl) {args : Array Value} : (Cond.arrayClass ty).before args s = true := word_at (State.WarmedH.refl s) (Or.inr ⟨ty, rfl⟩) (h.2 ty hty)
def DrC (G : Gl) (n cells : Nat) (fl : Bool) (meth : Method) (s0 s : State) : Prop := s = s0 ∧ (fl = true → meth.name = "<init>") ∧ s.heap.size + cells = G.2.2.1 + n ∧ ExC s
def RunC (G : Gl) (n : Nat) (N : NM) (fl : Bool) (R : Room) (mi : MI) (Z : ZT) (cells slots pc : Nat) (L : List (Option AV)) (st : List AV) (M : Mem) : Prop :=
  ∀ (p : Program) (l : Launch) (e : Env) (s0 s : State) (m : MethodId) (args : Array Value) (below : List Frame) (meth : Method) (c : Code) (H : Heap) (locs : List Loc) (ls : Array Slot) (vs : List Value),
    Cx G mi p l s m meth c → DrC G n cells fl meth s0 s → Rl G.2.2.2.1 mi.2.2.1 L ls → Rs G.2.2.2.1 st vs → WdC G n N M H → va_S (fre G) s.heap H locs →
    W p l e R s m args below meth c H locs cells slots (Z below args s0) (F0 m pc ls vs)
section RUNC
variable {G : Gl} {n9 : Nat} {N9 : NM} {fl : Bool} {R : Room} {mi : MI} {Z : ZT} {cells slots pc : Nat} {L : List (Option AV)} {st : List AV} {M : Mem}
theorem C_sub {L' : List (Option AV)} (hs : lsub L' L) (k : RunC G n9 N9 fl R mi Z cells slots pc L' st M) : RunC G n9 N9 fl R mi Z cells slots pc L st M :=
  fun p l e s0 s m args below meth c H locs ls vs C D hl => k p l e s0 s m args below meth c H locs ls vs C D (Rl_sub hl hs)
theorem C_iconst {n v : Int} (hd : decode mi.2.1 pc = .ok (.iconst n, 1)) (hv : (Int32.ofInt n).toInt = v) (k : RunC G n9 N9 fl R mi Z cells slots (pc + 1) L (aI v :: st) M) : RunC G n9 N9 fl R mi Z cells slots pc L st M := by
  intro p l e s0 s m args below meth c H locs ls vs C D hl hs hW hS
  refine lv_iconst C.1 C.2.1 hd rfl ?_
  exact k p l e s0 s m args below meth c H locs ls _ C D hl ⟨hv, hs⟩ hW hS
theorem C_bipush {n v : Int} (hd : decode mi.2.1 pc = .ok (.bipush n, 2)) (hv : ((Int8.ofInt n).toInt32).toInt = v) (k : RunC G n9 N9 fl R mi Z cells slots (pc + 2) L (aI v :: st) M) : RunC G n9 N9 fl R mi Z cells slots pc L st M := by
  intro p l e s0 s m args below meth c H locs ls vs C D hl hs hW hS
  refine lv_bipush C.1 C.2.1 hd rfl ?_
  exact k p l e s0 s m args below meth c H locs ls _ C D hl ⟨hv, hs⟩ hW hS
theorem C_sipush {n v : Int} (hd : decode mi.2.1 pc = .ok (.sipush n, 3)) (hv : ((Int16.ofInt n).toInt32).toInt = v) (k : RunC G n9 N9 fl R mi Z cells slots (pc + 3) L (aI v :: st) M) : RunC G n9 N9 fl R mi Z cells slots pc L st M := by
  intro p l e s0 s m args below meth c H locs ls vs C D hl hs hW hS
  refine lv_sipush C.1 C.2.1 hd rfl ?_
  exact k p l e s0 s m args below meth c H locs ls _ C D hl ⟨hv, hs⟩ hW hS
theorem C_iload_n {j : Fin 4} {i : Nat} {a : Int} (hd : decode mi.2.1 pc = .ok (.iload_n j, 1)) (hi : (j : Nat) = i) (hL : L[i]? = some (some (aI a))) (k : RunC G n9 N9 fl R mi Z cells slots (pc + 1) L (aI a :: st) M) : RunC G n9 N9 fl R mi Z cells slots pc L st M := by
  intro p l e s0 s m args below meth c H locs ls vs C D hl hs hW hS
  obtain ⟨v, hv, hr⟩ := hl.2.2 i _ hL
  obtain ⟨x, rfl, hx⟩ := Rv_int hr.v.1
  refine lv_iload_n C.1 C.2.1 hd hi hv ?_
  exact k p l e s0 s m args below meth c H locs ls _ C D hl ⟨hx, hs⟩ hW hS
theorem C_aload_n {j : Fin 4} {i : Nat} {a : Nat} (hd : decode mi.2.1 pc = .ok (.aload_n j, 1)) (hi : (j : Nat) = i) (hL : L[i]? = some (some (aR a))) (k : RunC G n9 N9 fl R mi Z cells slots (pc + 1) L (aR a :: st) M) : RunC G n9 N9 fl R mi Z cells slots pc L st M := by
  intro p l e s0 s m args below meth c H locs ls vs C D hl hs hW hS
  obtain ⟨v, hv, hr⟩ := hl.2.2 i _ hL
  have := Rv_ref hr.v.1
  subst this
  refine lv_aload_n C.1 C.2.1 hd hi hv ?_
  exact k p l e s0 s m args below meth c H locs ls _ C D hl ⟨rfl, hs⟩ hW hS
theorem C_istore_n {j : Fin 4} {i : Nat} {a : Int} {b : Int} {L' : List (Option AV)} (hd : decode mi.2.1 pc = .ok (.istore_n j, 1)) (hi : (j : Nat) = i) (hi2 : i < mi.2.2.1) (hab : b = a) (hL : L.set i (some (aI b)) = L') (k : RunC G n9 N9 fl R mi Z cells slots (pc + 1) L' st M) : RunC G n9 N9 fl R mi Z cells slots pc L (aI a :: st) M := by
  intro p l e s0 s m args below meth c H locs ls vs C D hl hs hW hS
  obtain ⟨x, vs1, rfl, hx, hs1⟩ := Rs_int hs
  subst hab
  refine lv_istore_n C.1 C.2.1 hd hi (lvA_has hl) hi2 rfl (fun ls' h' => ?_)
  subst hL
  exact k p l e s0 s m args below meth c H locs ls' _ C D (Rl_store hl (show Rw G.2.2.2.1 (aI b) (.int x) from hx) h') hs1 hW hS
theorem C_istore {i : Nat} {a : Int} {b : Int} {L' : List (Option AV)} (hd : decode mi.2.1 pc = .ok (.istore i, 2)) (hi2 : i < mi.2.2.1) (hab : b = a) (hL : L.set i (some (aI b)) = L') (k : RunC G n9 N9 fl R mi Z cells slots (pc + 2) L' st M) : RunC G n9 N9 fl R mi Z cells slots pc L (aI a :: st) M := by
  intro p l e s0 s m args below meth c H locs ls vs C D hl hs hW hS
  obtain ⟨x, vs1, rfl, hx, hs1⟩ := Rs_int hs
  subst hab
  refine lv_istore C.1 C.2.1 hd (lvA_has hl) hi2 rfl (fun ls' h' => ?_)
  subst hL
  exact k p l e s0 s m args below meth c H locs ls' _ C D (Rl_store hl (show Rw G.2.2.2.1 (aI b) (.int x) from hx) h') hs1 hW hS
theorem C_astore_n {j : Fin 4} {i : Nat} {a : Nat} {L' : List (Option AV)} (hd : decode mi.2.1 pc = .ok (.astore_n j, 1)) (hi : (j : Nat) = i) (hi2 : i < mi.2.2.1) (hL : L.set i (some (aR a)) = L') (k : RunC G n9 N9 fl R mi Z cells slots (pc + 1) L' st M) : RunC G n9 N9 fl R mi Z cells slots pc L (aR a :: st) M := by
  intro p l e s0 s m args below meth c H locs ls vs C D hl hs hW hS
  obtain ⟨vs1, rfl, hs1⟩ := Rs_ref hs
  refine lv_astore_n C.1 C.2.1 hd hi (lvA_has hl) hi2 rfl (fun ls' h' => ?_)
  subst hL
  exact k p l e s0 s m args below meth c H locs ls' _ C D (Rl_store hl (show Rw G.2.2.2.1 (aR a) (.ref _) from rfl) h') hs1 hW hS
theorem C_iinc {i : Nat} {n a v : Int} {L' : List (Option AV)} (hd : decode mi.2.1 pc = .ok (.iinc i n, 3)) (hL : L[i]? = some (some (aI a))) (hn : (Int32.ofInt n).toInt = n) (hv : v = w32 (a + n)) (hi2 : i < mi.2.2.1) (hL' : L.set i (some (aI v)) = L') (k : RunC G n9 N9 fl R mi Z cells slots (pc + 3) L' st M) : RunC G n9 N9 fl R mi Z cells slots pc L st M := by
  intro p l e s0 s m args below meth c H locs ls vs C D hl hs hW hS
  obtain ⟨v0, hv0, hr⟩ := hl.2.2 i _ hL
  obtain ⟨x, rfl, hx⟩ := Rv_int hr.v.1
  obtain ⟨q, hq⟩ := List.getElem?_of_mem (lvA_mem hv0)
  refine lv_iinc C.1 C.2.1 hd (lvA_has hl) hq rfl hi2 rfl (fun ls' h' => ?_)
  subst hL'
  exact k p l e s0 s m args below meth c H locs ls' _ C D (Rl_store hl (show Rw G.2.2.2.1 (aI v) (.int _) from by show (x + Int32.ofInt n).toInt = v; rw [toInt_add, hx, hn, hv]) h') hs hW hS
theorem C_iadd {a b v : Int} (hd : decode mi.2.1 pc = .ok (.iadd, 1)) (hv : v = w32 (a + b)) (k : RunC G n9 N9 fl R mi Z cells slots (pc + 1) L (aI v :: st) M) : RunC G n9 N9 fl R mi Z cells slots pc L (aI b :: aI a :: st) M := by
  intro p l e s0 s m args below meth c H locs ls vs C D hl hs hW hS
  obtain ⟨y, vs1, rfl, hy, hs⟩ := Rs_int hs
  obtain ⟨x, vs2, rfl, hx, hs1⟩ := Rs_int hs
  refine lv_iadd C.1 C.2.1 hd ?_
  exact k p l e s0 s m args below meth c H locs ls _ C D hl ⟨by show Int32.toInt _ = _; rw [toInt_add, hx, hy, hv], hs1⟩ hW hS
theorem C_imul {a b v : Int} (hd : decode mi.2.1 pc = .ok (.imul, 1)) (hv : v = w32 (a * b)) (k : RunC G n9 N9 fl R mi Z cells slots (pc + 1) L (aI v :: st) M) : RunC G n9 N9 fl R mi Z cells slots pc L (aI b :: aI a :: st) M := by
  intro p l e s0 s m args below meth c H locs ls vs C D hl hs hW hS
  obtain ⟨y, vs1, rfl, hy, hs⟩ := Rs_int hs
  obtain ⟨x, vs2, rfl, hx, hs1⟩ := Rs_int hs
  refine lv_imul C.1 C.2.1 hd ?_
  exact k p l e s0 s m args below meth c H locs ls _ C D hl ⟨by show Int32.toInt _ = _; rw [toInt_mul, hx, hy, hv], hs1⟩ hW hS
theorem C_dupR {a : Nat} (hd : decode mi.2.1 pc = .ok (.dup, 1)) (k : RunC G n9 N9 fl R mi Z cells slots (pc + 1) L (aR a :: aR a :: st) M) : RunC G n9 N9 fl R mi Z cells slots pc L (aR a :: st) M := by
  intro p l e s0 s m args below meth c H locs ls vs C D hl hs hW hS
  obtain ⟨vs2, rfl, hs9⟩ := Rs_ref hs
  refine lv_dup C.1 C.2.1 hd rfl ?_
  exact k p l e s0 s m args below meth c H locs ls _ C D hl ⟨rfl, rfl, hs9⟩ hW hS
theorem C_popI {a : Int} (hd : decode mi.2.1 pc = .ok (.pop, 1)) (k : RunC G n9 N9 fl R mi Z cells slots (pc + 1) L st M) : RunC G n9 N9 fl R mi Z cells slots pc L (aI a :: st) M := by
  intro p l e s0 s m args below meth c H locs ls vs C D hl hs hW hS
  obtain ⟨x, vs2, rfl, hx, hs⟩ := Rs_int hs
  refine lv_pop C.1 C.2.1 hd rfl ?_
  exact k p l e s0 s m args below meth c H locs ls _ C D hl hs hW hS
theorem C_goto {off : Int} {tgt : Nat} (hd : decode mi.2.1 pc = .ok (.goto off, 3)) (ht : (pc : Int) + off = (tgt : Int)) (k : RunC G n9 N9 fl R mi Z cells slots tgt L st M) : RunC G n9 N9 fl R mi Z cells slots pc L st M := by
  intro p l e s0 s m args below meth c H locs ls vs C D hl hs hW hS
  refine lv_goto C.1 C.2.1 hd ht ?_
  exact k p l e s0 s m args below meth c H locs ls _ C D hl hs hW hS
theorem C_if_eq {a : Int} {off : Int} {tgt : Nat} (hd : decode mi.2.1 pc = .ok (.ifCond .eq off, 3)) (ht : (pc : Int) + off = (tgt : Int)) (kt : a = 0 → RunC G n9 N9 fl R mi Z cells slots tgt L st M) (kf : ¬ a = 0 → RunC G n9 N9 fl R mi Z cells slots (pc + 3) L st M) : RunC G n9 N9 fl R mi Z cells slots pc L (aI a :: st) M := by
  intro p l e s0 s m args below meth c H locs ls vs C D hl hs hW hS
  obtain ⟨x, vs2, rfl, hx, hs⟩ := Rs_int hs
  refine lv_if_eq C.1 C.2.1 hd ht (fun h => ?_) (fun h => ?_)
  · exact kt ((i_eq hx i_z).mp h) p l e s0 s m args below meth c H locs ls _ C D hl hs hW hS
  · exact kf ((not_congr (i_eq hx i_z)).mp h) p l e s0 s m args below meth c H locs ls _ C D hl hs hW hS
theorem C_if_ne {a : Int} {off : Int} {tgt : Nat} (hd : decode mi.2.1 pc = .ok (.ifCond .ne off, 3)) (ht : (pc : Int) + off = (tgt : Int)) (kt : ¬ a = 0 → RunC G n9 N9 fl R mi Z cells slots tgt L st M) (kf : a = 0 → RunC G n9 N9 fl R mi Z cells slots (pc + 3) L st M) : RunC G n9 N9 fl R mi Z cells slots pc L (aI a :: st) M := by
  intro p l e s0 s m args below meth c H locs ls vs C D hl hs hW hS
  obtain ⟨x, vs2, rfl, hx, hs⟩ := Rs_int hs
  refine lv_if_ne C.1 C.2.1 hd ht (fun h => ?_) (fun h => ?_)
  · exact kt ((not_congr (i_eq hx i_z)).mp h) p l e s0 s m args below meth c H locs ls _ C D hl hs hW hS
  · exact kf ((i_eq hx i_z).mp h) p l e s0 s m args below meth c H locs ls _ C D hl hs hW hS
theorem C_if_lt {a : Int} {off : Int} {tgt : Nat} (hd : decode mi.2.1 pc = .ok (.ifCond .lt off, 3)) (ht : (pc : Int) + off = (tgt : Int)) (kt : a < 0 → RunC G n9 N9 fl R mi Z cells slots tgt L st M) (kf : ¬ a < 0 → RunC G n9 N9 fl R mi Z cells slots (pc + 3) L st M) : RunC G n9 N9 fl R mi Z cells slots pc L (aI a :: st) M := by
  intro p l e s0 s m args below meth c H locs ls vs C D hl hs hW hS
  obtain ⟨x, vs2, rfl, hx, hs⟩ := Rs_int hs
  refine lv_if_lt C.1 C.2.1 hd ht (fun h => ?_) (fun h => ?_)
  · exact kt ((i_lt hx i_z).mp h) p l e s0 s m args below meth c H locs ls _ C D hl hs hW hS
  · exact kf ((not_congr (i_lt hx i_z)).mp h) p l e s0 s m args below meth c H locs ls _ C D hl hs hW hS
theorem C_if_ge {a : Int} {off : Int} {tgt : Nat} (hd : decode mi.2.1 pc = .ok (.ifCond .ge off, 3)) (ht : (pc : Int) + off = (tgt : Int)) (kt : 0 ≤ a → RunC G n9 N9 fl R mi Z cells slots tgt L st M) (kf : ¬ 0 ≤ a → RunC G n9 N9 fl R mi Z cells slots (pc + 3) L st M) : RunC G n9 N9 fl R mi Z cells slots pc L (aI a :: st) M := by
  intro p l e s0 s m args below meth c H locs ls vs C D hl hs hW hS
  obtain ⟨x, vs2, rfl, hx, hs⟩ := Rs_int hs
  refine lv_if_ge C.1 C.2.1 hd ht (fun h => ?_) (fun h => ?_)
  · exact kt ((i_le i_z hx).mp h) p l e s0 s m args below meth c H locs ls _ C D hl hs hW hS
  · exact kf ((not_congr (i_le i_z hx)).mp h) p l e s0 s m args below meth c H locs ls _ C D hl hs hW hS
theorem C_icmp_eq {a b : Int} {off : Int} {tgt : Nat} (hd : decode mi.2.1 pc = .ok (.if_icmp .eq off, 3)) (ht : (pc : Int) + off = (tgt : Int)) (kt : a = b → RunC G n9 N9 fl R mi Z cells slots tgt L st M) (kf : ¬ a = b → RunC G n9 N9 fl R mi Z cells slots (pc + 3) L st M) : RunC G n9 N9 fl R mi Z cells slots pc L (aI b :: aI a :: st) M := by
  intro p l e s0 s m args below meth c H locs ls vs C D hl hs hW hS
  obtain ⟨y, vs1, rfl, hy, hs⟩ := Rs_int hs
  obtain ⟨x, vs2, rfl, hx, hs1⟩ := Rs_int hs
  refine lv_icmp_eq C.1 C.2.1 hd ht (fun h => ?_) (fun h => ?_)
  · exact kt ((i_eq hx hy).mp h) p l e s0 s m args below meth c H locs ls _ C D hl hs1 hW hS
  · exact kf ((not_congr (i_eq hx hy)).mp h) p l e s0 s m args below meth c H locs ls _ C D hl hs1 hW hS
theorem C_icmp_ne {a b : Int} {off : Int} {tgt : Nat} (hd : decode mi.2.1 pc = .ok (.if_icmp .ne off, 3)) (ht : (pc : Int) + off = (tgt : Int)) (kt : ¬ a = b → RunC G n9 N9 fl R mi Z cells slots tgt L st M) (kf : a = b → RunC G n9 N9 fl R mi Z cells slots (pc + 3) L st M) : RunC G n9 N9 fl R mi Z cells slots pc L (aI b :: aI a :: st) M := by
  intro p l e s0 s m args below meth c H locs ls vs C D hl hs hW hS
  obtain ⟨y, vs1, rfl, hy, hs⟩ := Rs_int hs
  obtain ⟨x, vs2, rfl, hx, hs1⟩ := Rs_int hs
  refine lv_icmp_ne C.1 C.2.1 hd ht (fun h => ?_) (fun h => ?_)
  · exact kt ((not_congr (i_eq hx hy)).mp h) p l e s0 s m args below meth c H locs ls _ C D hl hs1 hW hS
  · exact kf ((i_eq hx hy).mp h) p l e s0 s m args below meth c H locs ls _ C D hl hs1 hW hS
theorem C_icmp_lt {a b : Int} {off : Int} {tgt : Nat} (hd : decode mi.2.1 pc = .ok (.if_icmp .lt off, 3)) (ht : (pc : Int) + off = (tgt : Int)) (kt : a < b → RunC G n9 N9 fl R mi Z cells slots tgt L st M) (kf : ¬ a < b → RunC G n9 N9 fl R mi Z cells slots (pc + 3) L st M) : RunC G n9 N9 fl R mi Z cells slots pc L (aI b :: aI a :: st) M := by
  intro p l e s0 s m args below meth c H locs ls vs C D hl hs hW hS
  obtain ⟨y, vs1, rfl, hy, hs⟩ := Rs_int hs
  obtain ⟨x, vs2, rfl, hx, hs1⟩ := Rs_int hs
  refine lv_icmp_lt C.1 C.2.1 hd ht (fun h => ?_) (fun h => ?_)
  · exact kt ((i_lt hx hy).mp h) p l e s0 s m args below meth c H locs ls _ C D hl hs1 hW hS
  · exact kf ((not_congr (i_lt hx hy)).mp h) p l e s0 s m args below meth c H locs ls _ C D hl hs1 hW hS
theorem C_icmp_ge {a b : Int} {off : Int} {tgt : Nat} (hd : decode mi.2.1 pc = .ok (.if_icmp .ge off, 3)) (ht : (pc : Int) + off = (tgt : Int)) (kt : b ≤ a → RunC G n9 N9 fl R mi Z cells slots tgt L st M) (kf : ¬ b ≤ a → RunC G n9 N9 fl R mi Z cells slots (pc + 3) L st M) : RunC G n9 N9 fl R mi Z cells slots pc L (aI b :: aI a :: st) M := by
  intro p l e s0 s m args below meth c H locs ls vs C D hl hs hW hS
  obtain ⟨y, vs1, rfl, hy, hs⟩ := Rs_int hs
  obtain ⟨x, vs2, rfl, hx, hs1⟩ := Rs_int hs
  refine lv_icmp_ge C.1 C.2.1 hd ht (fun h => ?_) (fun h => ?_)
  · exact kt ((i_le hy hx).mp h) p l e s0 s m args below meth c H locs ls _ C D hl hs1 hW hS
  · exact kf ((not_congr (i_le hy hx)).mp h) p l e s0 s m args below meth c H locs ls _ C D hl hs1 hW hS
theorem C_icmp_gt {a b : Int} {off : Int} {tgt : Nat} (hd : decode mi.2.1 pc = .ok (.if_icmp .gt off, 3)) (ht : (pc : Int) + off = (tgt : Int)) (kt : b < a → RunC G n9 N9 fl R mi Z cells slots tgt L st M) (kf : ¬ b < a → RunC G n9 N9 fl R mi Z cells slots (pc + 3) L st M) : RunC G n9 N9 fl R mi Z cells slots pc L (aI b :: aI a :: st) M := by
  intro p l e s0 s m args below meth c H locs ls vs C D hl hs hW hS
  obtain ⟨y, vs1, rfl, hy, hs⟩ := Rs_int hs
  obtain ⟨x, vs2, rfl, hx, hs1⟩ := Rs_int hs
  refine lv_icmp_gt C.1 C.2.1 hd ht (fun h => ?_) (fun h => ?_)
  · exact kt ((i_lt hy hx).mp h) p l e s0 s m args below meth c H locs ls _ C D hl hs1 hW hS
  · exact kf ((not_congr (i_lt hy hx)).mp h) p l e s0 s m args below meth c H locs ls _ C D hl hs1 hW hS
theorem C_icmp_le {a b : Int} {off : Int} {tgt : Nat} (hd : decode mi.2.1 pc = .ok (.if_icmp .le off, 3)) (ht : (pc : Int) + off = (tgt : Int)) (kt : a ≤ b → RunC G n9 N9 fl R mi Z cells slots tgt L st M) (kf : ¬ a ≤ b → RunC G n9 N9 fl R mi Z cells slots (pc + 3) L st M) : RunC G n9 N9 fl R mi Z cells slots pc L (aI b :: aI a :: st) M := by
  intro p l e s0 s m args below meth c H locs ls vs C D hl hs hW hS
  obtain ⟨y, vs1, rfl, hy, hs⟩ := Rs_int hs
  obtain ⟨x, vs2, rfl, hx, hs1⟩ := Rs_int hs
  refine lv_icmp_le C.1 C.2.1 hd ht (fun h => ?_) (fun h => ?_)
  · exact kt ((i_le hx hy).mp h) p l e s0 s m args below meth c H locs ls _ C D hl hs1 hW hS
  · exact kf ((not_congr (i_le hx hy)).mp h) p l e s0 s m args below meth c H locs ls _ C D hl hs1 hW hS
theorem sizeC {p : Program} {l : Launch} {e : Env} {s0 s : State} {m : MethodId} {args : Array Value} {below : List Frame} {meth : Method} {c : Code} {H : Heap} {locs : List Loc} {T : State}
    (X : Stand p l e R s m args below meth c T locs cells slots) (hT : T.heap = H) (D : DrC G n9 cells fl meth s0 s) (hW : WdC G n9 N9 M H) (hE : En G s) : H.size = G.2.2.1 + n9 := by
  have h1 : T.heap.size ≤ s.heap.size + cells := X.same.2.2.1
  have h2 : s.heap.size ≤ T.heap.size := X.same.2.1
  have h3 : s.heap.size + cells = G.2.2.1 + n9 := D.2.2.1
  have h4 : G.2.2.1 ≤ s.heap.size := hE.2.2.2.2.2.2.2.1
  rw [hT] at h1 h2
  rcases Nat.eq_zero_or_pos n9 with h0 | h0
  · omega
  · have := (hW.1 (n9 - 1) _ (wrc_at _ _ _ _ _ (show n9 - 1 < n9 by omega))).lt
    have e : G.2.2.1 + (n9 - 1) < H.size := this
    omega
def isRT : FieldType → Bool
  | .object _ => true
  | .array _ => true
  | _ => false
/-- a class, with what its references' types are -/
def CLC (ci : Nat) (C : String) : Prop := ci < 11 ∧ ∃ (T : u_T) (ty : Nat → FieldType), vwCl[ci]? = some (C, T, nf ci) ∧ (∀ w ∈ u_ws C T (nf ci), w ∈ lw_tbl ∧ tbOK w = true) ∧ (∀ k, k < nf ci → parseFieldDescriptor (T k).2.2.1 = some (ty k)) ∧
  (∀ a, a < nf ci → ∀ b, b < nf ci → a ≠ b → (T a).2.1 ≠ (T b).2.1) ∧ (∀ k, k < nf ci → (ft ci k).1 = 0 → ty k = .int ∧ (T k).2.2.2 = false) ∧ (∀ k, k < nf ci → (ft ci k).1 = 1 → ty k = .boolean ∧ (T k).2.2.2 = false) ∧ (∀ k, k < nf ci → 1 < (ft ci k).1 → isRT (ty k) = true)
/-- a field of the constructor's own class -/
def FLC (own : String) (index ci k : Nat) : Prop := k < nf ci ∧ ∃ (C : String) (T : u_T) (N : Nat), vwCl[ci]? = some (C, T, N) ∧ Cond.fieldLink own index (T k).1 (T k).2.1 (T k).2.2.1 ∈ lw_tbl ∧ (T k).1 = own
theorem WdC.grow {H H1 : Heap} (hW : WdC G n9 N9 M H) (hz : H.size = G.2.2.1 + n9) (hn : n9 < NO) (o1 : ∀ q, q < G.2.2.1 + n9 → H1[q]? = H[q]?) (hnew : va_at G.1 vwCl (G.2.2.1 + n9, ceN G.2.1 G.2.2.1 N9 M n9) H1) : WdC G (n9 + 1) N9 M H1 := by
  have hk : ∀ (k : Nat) (x : Nat × va_E), (wrc G.2.1 G.2.2.1 n9 N9 M)[k]? = some x → H1[x.1]? = H[x.1]? := fun k x hx => o1 x.1 (by rw [← hz]; exact (hW.1 k x hx).lt)
  refine ⟨?_, hW.2.1, fun k hk => hW.2.2.1 k (by omega), hn⟩
  rw [wrc_succ]
  refine (hW.1.kept hk).app (fun k x hx => ?_)
  have hz : k < 1 := (List.getElem?_eq_some_iff.mp hx).1
  rw [show k = 0 by omega] at hx
  cases hx
  exact hnew
theorem DrC.grow {meth : Method} {s0 s : State} {k : Nat} (h : DrC G n9 cells fl meth s0 s) : DrC G (n9 + k) (cells + k) fl meth s0 s := ⟨h.1, h.2.1, by have := h.2.2.1; omega, h.2.2.2⟩
theorem C_new {index ci : Nat} {C : String} (hd : decode mi.2.1 pc = .ok (.new index, 3)) (hC : CLC ci C) (hlk : Cond.classLink mi.1 index C ∈ lw_tbl) (hins : Cond.instantiable C (nf ci) ∈ lw_tbl) (hini : Cond.initialized C ∈ lw_tbl) (hot : (ot n9).1 = ci) (hn : n9 < NO)
    (hR : cells + 1 ≤ R.cells ∧ slots + nf ci ≤ R.slots) (kk : RunC G (n9 + 1) N9 fl R mi Z (cells + 1) (slots + nf ci) (pc + 3) L (aR n9 :: st) M) : RunC G n9 N9 fl R mi Z cells slots pc L st M := by
  intro p l e s0 s m args below meth c H locs ls vs CC D hl hs hW hS T hT X
  obtain ⟨hx, hb, hml, hr, hlk2, hown, hst, hxt, hE⟩ := id CC
  obtain ⟨h11, T0, ty, hcl, hin, hty, hnm, hi0, hi1, hrt⟩ := hC
  obtain ⟨hTB, hK, -, -, -, -, had, -⟩ := id hE
  have hz := sizeC X hT D hW hE
  have hKn := hK.1 ci _ hcl
  have hts : ∀ w ∈ u_ws C T0 (nf ci), w.before args s = true := fun w h => hTB.use (hin w h).1 (hin w h).2
  have h0 := hW.2.2.1 n9 (Nat.le_refl _)
  suffices key : W p l e R s m args below meth c H locs cells slots (Z below args s0) (F0 m pc ls vs) from key T hT X
  refine W.newcK hx hb hown (hTB.use hlk rfl) (hTB.use hins rfl) (hTB.use hini rfl) rfl hd hR.1 hR.2 hKn.2.1 hz (fun H1 kC hkC e1 z1 o1 => ?_)
  refine kk p l e s0 s m args below meth c H1 locs ls (.ref (G.2.2.1 + n9) :: vs) CC D.grow hl ⟨(had n9 (by unfold NO at hn; omega)).symm, hs⟩ (hW.grow hz hn o1 ?_) ⟨Nat.le_trans hS.1 (by omega), fun x h1 h2 => (o1 x (by rw [← hz]; exact Nat.lt_of_lt_of_le h1 hS.1)).trans (hS.2.1 x h1 h2), hS.2.2⟩
  rw [ceN_obj _ _ _ _ hot h11]
  refine ⟨_, hcl, (u_born ty hts (fun _ h => h) hKn hkC e1 hty).to (fun j hj => ?_)⟩
  show defaultValue (ty j) = vp_V (fldN G.2.2.1 N9 M n9 ci) j
  unfold vp_V fldN
  rw [List.getD_eq_getElem?_getD, List.getElem?_map, List.getElem?_range hj]
  show defaultValue (ty j) = fvN G.2.2.1 N9 M n9 ci j
  unfold fvN
  rw [h0.1, h0.2]
  rcases Nat.lt_trichotomy (ft ci j).1 1 with h | h | h
  · rw [if_pos (by omega), (hi0 j hj (by omega)).1]; rfl
  · rw [if_pos (by omega), (hi1 j hj h).1]; rfl
  · rw [if_neg (by omega), if_pos rfl]
    have := hrt j hj h
    revert this
    cases ty j <;> intro this <;> first | rfl | cases this
def tyA (t : Nat) : FieldType := if t = 0 then .int else if t = 1 then .boolean else .byte
theorem C_newa {t len : Nat} {atype : ArrayType} {v : Int} (hd : decode mi.2.1 pc = .ok (.newarray atype, 2)) (ht : t < 3) (hty : newarray.typeOf atype = tyA t) (hw : Cond.arrayClass (newarray.typeOf atype) ∈ lw_tbl) (hot : ot n9 = (20 + t, len)) (hv : v = len) (hn : n9 < NO)
    (hby : len * componentBytes (newarray.typeOf atype) ≤ 536870912) (hR : cells + 1 ≤ R.cells ∧ slots + len ≤ R.slots) (kk : RunC G (n9 + 1) N9 fl R mi Z (cells + 1) (slots + len) (pc + 2) L (aR n9 :: st) M) : RunC G n9 N9 fl R mi Z cells slots pc L (aI v :: st) M := by
  intro p l e s0 s m args below meth c H locs ls vs CC D hl hs hW hS T hT X
  obtain ⟨hx, hb, hml, hr, hlk2, hown, hst, hxt, hE⟩ := id CC
  obtain ⟨hTB, hK, -, -, -, -, had, -⟩ := id hE
  obtain ⟨x, vs1, rfl, hxv, hs1⟩ := Rs_int hs
  have hz := sizeC X hT D hW hE
  have h0 := hW.2.2.1 n9 (Nat.le_refl _)
  have hn1 : x.toNatClampNeg = len := by have := clamp_int hxv (by omega); omega
  have hn0 : ¬ x < 0 := fun h => by
    have := (i_lt hxv i_z).mp h
    omega
  suffices key : W p l e R s m args below meth c H locs cells slots (Z below args s0) (F0 m pc ls (.int x :: vs1)) from key T hT X
  refine va_newaK hx hb (D.2.2.2.arr hw) rfl hd rfl hn0 hn1 hby hR.1 hR.2 hz (fun H1 cA e1 z1 o1 hAr hNm => ?_)
  refine kk p l e s0 s m args below meth c H1 locs ls (.ref (G.2.2.1 + n9) :: vs1) CC D.grow hl ⟨(had n9 (by unfold NO at hn; omega)).symm, hs1⟩ (hW.grow hz hn o1 ?_) ⟨Nat.le_trans hS.1 (by omega), fun x h1 h2 => (o1 x (by rw [← hz]; exact Nat.lt_of_lt_of_le h1 hS.1)).trans (hS.2.1 x h1 h2), hS.2.2⟩
  rw [ceN_arr _ _ _ _ hot ht]
  have hcA : cA = G.2.1 t := by
    rw [hty] at hNm
    have hq : t = 0 ∨ t = 1 ∨ t = 2 := by omega
    rcases hq with rfl | rfl | rfl
    · exact Option.some.inj (hNm.symm.trans (hK.2 0 _ rfl).2)
    · exact Option.some.inj (hNm.symm.trans (hK.2 1 _ rfl).2)
    · exact Option.some.inj (hNm.symm.trans (hK.2 2 _ rfl).2)
  subst hcA
  show H1[G.2.2.1 + n9]? = some (arrV (G.2.1 t) len (fun j => .int (Int32.ofInt (M n9 (j : Nat)))))
  rw [e1, hty]
  congr 2
  funext j
  rw [h0.1]
  have hq : t = 0 ∨ t = 1 ∨ t = 2 := by omega
  rcases hq with rfl | rfl | rfl <;> rfl
theorem C_newl {len : Nat} {v : Int} (hd : decode mi.2.1 pc = .ok (.newarray .long, 2)) (hw : Cond.arrayClass .long ∈ lw_tbl) (hot : ot n9 = (24, len)) (hv : v = len) (hn : n9 < NO)
    (hby : len * componentBytes (newarray.typeOf .long) ≤ 536870912) (hR : cells + 1 ≤ R.cells ∧ slots + len ≤ R.slots) (kk : RunC G (n9 + 1) N9 fl R mi Z (cells + 1) (slots + len) (pc + 2) L (aR n9 :: st) M) : RunC G n9 N9 fl R mi Z cells slots pc L (aI v :: st) M := by
  intro p l e s0 s m args below meth c H locs ls vs CC D hl hs hW hS T hT X
  obtain ⟨hx, hb, hml, hr, hlk2, hown, hst, hxt, hE⟩ := id CC
  obtain ⟨hTB, hK, -, -, -, -, had, -⟩ := id hE
  obtain ⟨x, vs1, rfl, hxv, hs1⟩ := Rs_int hs
  have hz := sizeC X hT D hW hE
  have h0 := hW.2.2.1 n9 (Nat.le_refl _)
  have hn1 : x.toNatClampNeg = len := by have := clamp_int hxv (by omega); omega
  have hn0 : ¬ x < 0 := fun h => by
    have := (i_lt hxv i_z).mp h
    omega
  suffices key : W p l e R s m args below meth c H locs cells slots (Z below args s0) (F0 m pc ls (.int x :: vs1)) from key T hT X
  refine va_newaK (atype := .long) hx hb (D.2.2.2.arr hw) rfl hd rfl hn0 hn1 hby hR.1 hR.2 hz (fun H1 cA e1 z1 o1 hAr hNm => ?_)
  refine kk p l e s0 s m args below meth c H1 locs ls (.ref (G.2.2.1 + n9) :: vs1) CC D.grow hl ⟨(had n9 (by unfold NO at hn; omega)).symm, hs1⟩ (hW.grow hz hn o1 ?_) ⟨Nat.le_trans hS.1 (by omega), fun x h1 h2 => (o1 x (by rw [← hz]; exact Nat.lt_of_lt_of_le h1 hS.1)).trans (hS.2.1 x h1 h2), hS.2.2⟩
  rw [ceN_lng _ _ _ _ hot]
  have hcA : cA = G.2.1 4 := Option.some.inj (hNm.symm.trans (hK.2 4 _ rfl).2)
  subst hcA
  show H1[G.2.2.1 + n9]? = some (arrV (G.2.1 4) len (fun j => .long (Int32.ofInt (M n9 (j : Nat))).toInt64))
  rw [e1]
  congr 2
  funext j
  rw [h0.1]
  rfl
theorem C_anew {index len : Nat} {v : Int} (hd : decode mi.2.1 pc = .ok (.anewarray index, 3)) (hlk : Cond.classLink mi.1 index "BracketHall$Page" ∈ lw_tbl) (hot : ot n9 = (23, len)) (hv : v = len) (hn : n9 < NO)
    (hby : len * 4 ≤ 536870912) (hR : cells + 1 ≤ R.cells ∧ slots + len ≤ R.slots) (kk : RunC G (n9 + 1) N9 fl R mi Z (cells + 1) (slots + len) (pc + 3) L (aR n9 :: st) M) : RunC G n9 N9 fl R mi Z cells slots pc L (aI v :: st) M := by
  intro p l e s0 s m args below meth c H locs ls vs CC D hl hs hW hS T hT X
  obtain ⟨hx, hb, hml, hr, hlk2, hown, hst, hxt, hE⟩ := id CC
  obtain ⟨hTB, hK, -, -, -, -, had, -⟩ := id hE
  obtain ⟨x, vs1, rfl, hxv, hs1⟩ := Rs_int hs
  have hz := sizeC X hT D hW hE
  have h0 := hW.2.2.1 n9 (Nat.le_refl _)
  have hn1 : x.toNatClampNeg = len := by have := clamp_int hxv (by omega); omega
  have hn0 : ¬ x < 0 := fun h => by
    have := (i_lt hxv i_z).mp h
    omega
  subst hn1
  suffices key : W p l e R s m args below meth c H locs cells slots (Z below args s0) (F0 m pc ls (.int x :: vs1)) from key T hT X
  refine W.anew hx hb hown (hTB.use hlk rfl) (va_AO.use D.2.2.2.1) rfl hd rfl hn0 hby hR.1 hR.2 (fun cA kA comp f1 f2 f3 f4 => ?_)
  generalize hH1 : H.push ({ cls := cA, slots := Array.replicate x.toNatClampNeg .null, vm := .none } : Cell) = H1
  have z1 : H1.size = H.size + 1 := by rw [← hH1, Array.size_push]
  have e1 : H1[H.size]? = some (arrV cA x.toNatClampNeg (fun _ => .null)) := by rw [← hH1, Array.getElem?_push_size, ← arrV_new]
  have o1 : ∀ q : Nat, q < H.size → H1[q]? = H[q]? := fun q hq => by rw [← hH1, Array.getElem?_push, if_neg (Nat.ne_of_lt hq)]
  rw [hz] at z1 e1 o1 ⊢
  refine kk p l e s0 s m args below meth c H1 locs ls (.ref (G.2.2.1 + n9) :: vs1) CC D.grow hl ⟨(had n9 (by unfold NO at hn; omega)).symm, hs1⟩ (hW.grow hz hn o1 ?_) ⟨Nat.le_trans hS.1 (by omega), fun x h1 h2 => (o1 x (by rw [← hz]; exact Nat.lt_of_lt_of_le h1 hS.1)).trans (hS.2.1 x h1 h2), hS.2.2⟩
  rw [ceN_pag _ _ _ _ hot]
  have hcA : cA = G.2.1 3 := by
    obtain ⟨-, kA', comp', g1, g2, g3, g4⟩ := hK.2 3 _ rfl
    exact Option.some.inj (f1.symm.trans g4)
  subst hcA
  show H1[G.2.2.1 + n9]? = some (arrV (G.2.1 3) x.toNatClampNeg (fun j => va_rf (if N9 n9 j = true then none else some (G.2.2.1 + rfa n9 j))))
  rw [e1]
  congr 2
  funext j
  rw [h0.2, if_pos rfl]
  rfl
theorem WdC.put {H1 : Heap} {N' : NM} {M' : Mem} {a : Nat} {H : Heap} (hW : WdC G n9 N9 M H) (ha : a < n9) (hP : va_P G.1 vwCl (wrc G.2.1 G.2.2.1 n9 N' M') H1) (hRM : RM M') (h1 : ∀ k, k ≠ a → (∀ i, M' k i = M k i) ∧ ∀ i, N' k i = N9 k i) : WdC G n9 N' M' H1 :=
  ⟨hP, hRM, fun k hk => ⟨fun i => ((h1 k (by omega)).1 i).trans ((hW.2.2.1 k hk).1 i), fun i => ((h1 k (by omega)).2 i).trans ((hW.2.2.1 k hk).2 i)⟩, hW.2.2.2⟩
theorem fldN_up (base : Nat) (N : NM) (M : Mem) {a ci k : Nat} (x : Int32) (hf : (ft ci k).1 ≤ 1) : (fldN base N M a ci).set k (.int x) = fldN base N (up M a k x.toInt) a ci := by
  unfold fldN
  refine map_range_set _ _ _ _ _ (fun _ => ?_) (fun j hj => ?_)
  · unfold fvN
    rw [if_pos hf, up_eq, Int32.ofInt_toInt]
  · unfold fvN
    rw [up_nei (by omega)]
theorem fldN_clr (base : Nat) (N : NM) (M : Mem) {a ci k : Nat} (hf : 1 < (ft ci k).1) : (fldN base N M a ci).set k (.ref (base + rf a ci k)) = fldN base (clr N a k) M a ci := by
  unfold fldN
  refine map_range_set _ _ _ _ _ (fun _ => ?_) (fun j hj => ?_)
  · unfold fvN
    rw [if_neg (by omega), clr_eq]
    rfl
  · unfold fvN
    rw [clr_ni N hj]
theorem C_put {index ci a k : Nat} {C : String} {ki v : Int} {M' : Mem} (hd : decode mi.2.1 pc = .ok (.putfield index, 3)) (hC : CL ci C) (hF : FL mi.1 index ci k) (ho : isO ci a) (hf : (ft ci k).1 = 0 ∨ ((ft ci k).1 = 1 ∧ (v = 0 ∨ v = 1))) (hki : (k : Int) = ki) (hM : M' = up M a ki v) (kk : RunC G n9 N9 fl R mi Z cells slots (pc + 3) L st M') (ha : a < n9 := by omega) : RunC G n9 N9 fl R mi Z cells slots pc L (aI v :: aR a :: st) M := by
  subst hki
  intro p l e s0 s m args below meth c H locs ls vs CC D hl hs hW hS
  obtain ⟨hx, hb, hml, hr, hlk, hown, hst, hxt, hE⟩ := id CC
  obtain ⟨x, vs1, rfl, hxv, hs1⟩ := Rs_int hs
  obtain ⟨vs2, rfl, hs2⟩ := Rs_ref hs1
  obtain ⟨h11, T, ty, hcl, hin, hty, hnm, hi0, hi1⟩ := hC
  obtain ⟨hk, C2, T2, N2, hcl2, hlink⟩ := hF
  cases hcl.symm.trans hcl2
  obtain ⟨hTB, hK, -, -, -, -, had, -⟩ := id hE
  have ha2 : G.2.2.2.1 a = G.2.2.1 + a := had a (by have := ho.1; unfold NO at this; omega)
  have he : (wrc G.2.1 G.2.2.1 n9 N9 M)[a]? = some (G.2.2.1 + a, .inr (ci, fldN G.2.2.1 N9 M a ci)) := by rw [wrc_at _ _ _ _ _ ha, ceN_obj _ _ _ _ ho.2 h11]
  have hts : ∀ w ∈ u_ws C T (nf ci), w.before args s = true := fun w h => hTB.use (hin w h).1 (hin w h).2
  have hf1 : (ft ci k).1 ≤ 1 := by rcases hf with h | h <;> omega
  have hfin : (T k).2.2.2 = false := by rcases hf with h | h; exact (hi0 k hk h).2; exact (hi1 k hk h.1).2
  have hn : narrow (ty k) (.int x) = .int x := by
    rcases hf with h | ⟨h, h2⟩
    · rw [(hi0 k hk h).1]; rfl
    · rw [(hi1 k hk h).1]
      rcases h2 with h2 | h2
      · have : x = 0 := (i_eq hxv i_z).mpr h2
        subst this; rfl
      · have : x = 1 := (i_eq hxv (show (1 : Int32).toInt = 1 from rfl)).mpr h2
        subst this; rfl
  have hfit : fits (ty k) (.int x) = true := by
    rcases hf with h | ⟨h, h2⟩
    · rw [(hi0 k hk h).1]; rfl
    · rw [(hi1 k hk h).1]
      rcases h2 with h2 | h2
      · have : x = 0 := (i_eq hxv i_z).mpr h2
        subst this; rfl
      · have : x = 1 := (i_eq hxv (show (1 : Int32).toInt = 1 from rfl)).mpr h2
        subst this; rfl
  have hW' : (wrc G.2.1 G.2.2.1 n9 N9 M).set a (G.2.2.1 + a, .inr (ci, (fldN G.2.2.1 N9 M a ci).set k (.int x))) = wrc G.2.1 G.2.2.1 n9 N9 M' := by
    subst hM
    refine wrc_set _ _ _ _ _ _ _ _ _ ?_ (fun j hj => ceN_congr _ _ (fun i => up_ne hj i) (fun _ => rfl))
    rw [ceN_obj _ _ _ _ ho.2 h11, fldN_up _ _ _ _ hf1, hxv]
  have hRM' : RM M' := by
    subst hM
    exact RM_up hW.2.1 (by rw [← hxv]; exact toInt_in x)
  have hlen : k < (fldN G.2.2.1 N9 M a ci).length := by simpa [fldN] using hk
  have hc1 : ∀ b, b ≠ a → (∀ i, M' b i = M b i) ∧ ∀ i, N9 b i = N9 b i := fun b hb => ⟨fun i => by rw [hM]; exact up_ne hb i, fun _ => rfl⟩
  rw [ha2]
  rcases hlink with hlink | ⟨host, hlink⟩
  · refine va_put hx hb hts (fun _ h => h) ty hty hnm hown hK hW.1 (wrc_D G n9 N9 M) hS a he hcl k hk (hTB.use hlink rfl) (fun _ h9 => h9) hfin (hty k hk) hn hfit hlen hd (fun H1 locs1 hP1 hD1 hS1 => ?_)
    rw [hW'] at hP1
    exact kk p l e s0 s m args below meth c H1 locs1 ls _ CC D hl hs2 (hW.put ha hP1 hRM' hc1) hS1
  · refine va_putN hx hb hts (fun _ h => h) ty hty hnm hown hK hW.1 (wrc_D G n9 N9 M) hS a he hcl k hk (hTB.use hlink rfl) (fun _ h9 => h9) hfin (hty k hk) hn hfit hlen hd (fun H1 locs1 hP1 hD1 hS1 => ?_)
    rw [hW'] at hP1
    exact kk p l e s0 s m args below meth c H1 locs1 ls _ CC D hl hs2 (hW.put ha hP1 hRM' hc1) hS1
theorem C_putR {index ci a k b : Nat} {C : String} (hd : decode mi.2.1 pc = .ok (.putfield index, 3)) (hC : CLC ci C) (hF : FLC mi.1 index ci k) (ho : isO ci a) (hf : 1 < (ft ci k).1) (hb : rf a ci k = b) (hbn : b < NO) (hfl : fl = true) (ha : a < n9) (kk : RunC G n9 (clr N9 a k) fl R mi Z cells slots (pc + 3) L st M) : RunC G n9 N9 fl R mi Z cells slots pc L (aR b :: aR a :: st) M := by
  intro p l e s0 s m args below meth c H locs ls vs CC D hl hs hW hS
  obtain ⟨hx, hb0, hml, hr, hlk, hown, hst, hxt, hE⟩ := id CC
  obtain ⟨vs1, rfl, hs1⟩ := Rs_ref hs
  obtain ⟨vs2, rfl, hs2⟩ := Rs_ref hs1
  obtain ⟨h11, T, ty, hcl, hin, hty, hnm, hi0, hi1, hrt⟩ := hC
  obtain ⟨hk, C2, T2, N2, hcl2, hlink, hdecl⟩ := hF
  cases hcl.symm.trans hcl2
  obtain ⟨hTB, hK, -, -, -, -, had, -⟩ := id hE
  have ha2 : G.2.2.2.1 a = G.2.2.1 + a := had a (by have := ho.1; unfold NO at this; omega)
  have hb2 : G.2.2.2.1 b = G.2.2.1 + b := had b (by unfold NO at hbn; omega)
  have he : (wrc G.2.1 G.2.2.1 n9 N9 M)[a]? = some (G.2.2.1 + a, .inr (ci, fldN G.2.2.1 N9 M a ci)) := by rw [wrc_at _ _ _ _ _ ha, ceN_obj _ _ _ _ ho.2 h11]
  have hts : ∀ w ∈ u_ws C T (nf ci), w.before args s = true := fun w h => hTB.use (hin w h).1 (hin w h).2
  have hrk := hrt k hk hf
  have hn : narrow (ty k) (.ref (G.2.2.1 + b)) = .ref (G.2.2.1 + b) := by
    revert hrk
    cases ty k <;> intro hrk <;> first | rfl | cases hrk
  have hfit : fits (ty k) (.ref (G.2.2.1 + b)) = true := by
    revert hrk
    cases ty k <;> intro hrk <;> first | rfl | cases hrk
  have hW' : (wrc G.2.1 G.2.2.1 n9 N9 M).set a (G.2.2.1 + a, .inr (ci, (fldN G.2.2.1 N9 M a ci).set k (.ref (G.2.2.1 + b)))) = wrc G.2.1 G.2.2.1 n9 (clr N9 a k) M := by
    refine wrc_set _ _ _ _ _ _ _ _ _ ?_ (fun j hj => ceN_congr _ _ (fun i => rfl) (fun i => clr_nb _ hj i))
    rw [ceN_obj _ _ _ _ ho.2 h11, ← hb, fldN_clr _ _ _ hf]
  have hlen : k < (fldN G.2.2.1 N9 M a ci).length := by simpa [fldN] using hk
  have hc1 : ∀ b, b ≠ a → (∀ i, M b i = M b i) ∧ ∀ i, clr N9 a k b i = N9 b i := fun b hb => ⟨fun i => rfl, fun i => clr_nb _ hb i⟩
  rw [ha2, hb2]
  cases hfin : (T k).2.2.2 with
  | false =>
    refine va_put hx hb0 hts (fun _ h => h) ty hty hnm hown hK hW.1 (wrc_D G n9 N9 M) hS a he hcl k hk (hTB.use hlink rfl) (fun _ h9 => h9) hfin (hty k hk) hn hfit hlen hd (fun H1 locs1 hP1 hD1 hS1 => ?_)
    rw [hW'] at hP1
    exact kk p l e s0 s m args below meth c H1 locs1 ls _ CC D hl hs2 (hW.put ha hP1 hW.2.1 hc1) hS1
  | true =>
    refine va_putF hx hb0 hts (fun _ h => h) ty hty hnm hown hK hW.1 (wrc_D G n9 N9 M) hS a he hcl k hk (hTB.use hlink rfl) (fun _ h9 => h9) hfin (D.2.1 hfl) hdecl (hty k hk) hn hfit hlen hd (fun H1 locs1 hP1 hD1 hS1 => ?_)
    rw [hW'] at hP1
    exact kk p l e s0 s m args below meth c H1 locs1 ls _ CC D hl hs2 (hW.put ha hP1 hW.2.1 hc1) hS1
theorem C_get {index ci a k : Nat} {C : String} {v : AV} (hd : decode mi.2.1 pc = .ok (.getfield index, 3)) (hC : CL ci C) (hF : FL mi.1 index ci k) (ho : isO ci a) (ha : a < n9) (hv : ∀ ad : Nat → Nat, (∀ q, q < 199 → ad q = G.2.2.1 + q) → RM M → Rv ad v (fvN G.2.2.1 N9 M a ci k)) (kk : RunC G n9 N9 fl R mi Z cells slots (pc + 3) L (v :: st) M) : RunC G n9 N9 fl R mi Z cells slots pc L (aR a :: st) M := by
  intro p l e s0 s m args below meth c H locs ls vs CC D hl hs hW hS
  obtain ⟨hx, hb, hml, hr, hlk, hown, hst, hxt, hE⟩ := id CC
  obtain ⟨vs1, rfl, hs1⟩ := Rs_ref hs
  obtain ⟨h11, T, ty, hcl, hin, hty, hnm, -, -⟩ := hC
  obtain ⟨hk, C2, T2, N2, hcl2, hlink⟩ := hF
  cases hcl.symm.trans hcl2
  obtain ⟨hTB, hK, -, -, -, -, had, -⟩ := id hE
  have ha2 : G.2.2.2.1 a = G.2.2.1 + a := had a (by have := ho.1; unfold NO at this; omega)
  have he : (wrc G.2.1 G.2.2.1 n9 N9 M)[a]? = some (G.2.2.1 + a, .inr (ci, fldN G.2.2.1 N9 M a ci)) := by rw [wrc_at _ _ _ _ _ ha, ceN_obj _ _ _ _ ho.2 h11]
  have hts : ∀ w ∈ u_ws C T (nf ci), w.before args s = true := fun w h => hTB.use (hin w h).1 (hin w h).2
  rw [ha2]
  rcases hlink with hlink | ⟨host, hlink⟩
  · refine va_get hx hb hts (fun _ h => h) hown hK hW.1 a he hcl k hk (hTB.use hlink rfl) (fun _ h9 => h9) (v := fvN G.2.2.1 N9 M a ci k) ?_ hd ?_
    · unfold fldN
      rw [List.getElem?_map, List.getElem?_range hk]
      rfl
    · exact kk p l e s0 s m args below meth c H locs ls _ CC D hl ⟨hv _ had hW.2.1, hs1⟩ hW hS
  · refine va_getN hx hb hts (fun _ h => h) hown hK hW.1 a he hcl k hk (hTB.use hlink rfl) (fun _ h9 => h9) (v := fvN G.2.2.1 N9 M a ci k) ?_ hd ?_
    · unfold fldN
      rw [List.getElem?_map, List.getElem?_range hk]
      rfl
    · exact kk p l e s0 s m args below meth c H locs ls _ CC D hl ⟨hv _ had hW.2.1, hs1⟩ hW hS
theorem C_getI {index ci a k : Nat} {C : String} {ki v : Int} (hd : decode mi.2.1 pc = .ok (.getfield index, 3)) (hC : CL ci C) (hF : FL mi.1 index ci k) (ho : isO ci a) (hf : (ft ci k).1 ≤ 1) (hki : (k : Int) = ki) (hv : v = M a ki) (kk : RunC G n9 N9 fl R mi Z cells slots (pc + 3) L (aI v :: st) M) (ha : a < n9 := by omega) : RunC G n9 N9 fl R mi Z cells slots pc L (aR a :: st) M :=
  C_get hd hC hF ho ha (fun ad had hRM => by
    unfold fvN
    rw [if_pos hf, hv, ← hki]
    exact ofInt_toInt (hRM _ _)) kk
theorem C_getR {index ci a k b : Nat} {C : String} (hd : decode mi.2.1 pc = .ok (.getfield index, 3)) (hC : CL ci C) (hF : FL mi.1 index ci k) (ho : isO ci a) (hf : 1 < (ft ci k).1) (hv : rf a ci k = b) (hb : b < NO) (kk : RunC G n9 N9 fl R mi Z cells slots (pc + 3) L (aR b :: st) M) (ha : a < n9 := by omega) (hN : N9 a k = false := by first | assumption | rfl | simp only [*]) : RunC G n9 N9 fl R mi Z cells slots pc L (aR a :: st) M :=
  C_get hd hC hF ho ha (fun ad had _ => by
    unfold fvN
    rw [if_neg (by omega), hv, hN]
    show _ = ad b
    rw [had b (by unfold NO at hb; omega)]) kk
theorem C_iaload {a n : Nat} {i v : Int} (hd : decode mi.2.1 pc = .ok (.iaload, 1)) (ha : isA 20 n a) (h0 : 0 ≤ i) (h1 : i < n) (hv : v = M a i) (kk : RunC G n9 N9 fl R mi Z cells slots (pc + 1) L (aI v :: st) M) (hn : a < n9 := by omega) : RunC G n9 N9 fl R mi Z cells slots pc L (aI i :: aR a :: st) M := by
  intro p l e s0 s m args below meth c H locs ls vs CC D hl hs hW hS
  obtain ⟨hx, hb, hml, hr, hlk, hown, hst, hxt, hE⟩ := id CC
  obtain ⟨x, vs1, rfl, hxv, hs1⟩ := Rs_int hs
  obtain ⟨vs2, rfl, hs2⟩ := Rs_ref hs1
  obtain ⟨hTB, hK, -, -, -, -, had, -⟩ := id hE
  have ha2 : G.2.2.2.1 a = G.2.2.1 + a := had a (by have := ha.1; unfold NO at this; omega)
  have he := wrc_at G.2.1 G.2.2.1 n9 N9 M hn
  rw [ceN_arr _ _ _ _ (t := 0) ha.2 (by omega)] at he
  rw [ha2]
  refine va_iald hx hb hK hW.1 a 0 he rfl (vp_in_int hxv h0 h1) hd ?_
  refine kk p l e s0 s m args below meth c H locs ls _ CC D hl ⟨?_, hs2⟩ hW hS
  show (Int32.ofInt (M a (x.toNatClampNeg : Nat))).toInt = v
  rw [ofInt_toInt (hW.2.1 _ _), clamp_int hxv h0, hv]
theorem C_iastore {a n : Nat} {i v : Int} {M' : Mem} (hd : decode mi.2.1 pc = .ok (.iastore, 1)) (ha : isA 20 n a) (h0 : 0 ≤ i) (h1 : i < n) (hM : M' = up M a i v) (kk : RunC G n9 N9 fl R mi Z cells slots (pc + 1) L st M') (hn : a < n9 := by omega) : RunC G n9 N9 fl R mi Z cells slots pc L (aI v :: aI i :: aR a :: st) M := by
  intro p l e s0 s m args below meth c H locs ls vs CC D hl hs hW hS
  obtain ⟨hx, hb, hml, hr, hlk, hown, hst, hxt, hE⟩ := id CC
  obtain ⟨y, vs0, rfl, hyv, hs0⟩ := Rs_int hs
  obtain ⟨x, vs1, rfl, hxv, hs1⟩ := Rs_int hs0
  obtain ⟨vs2, rfl, hs2⟩ := Rs_ref hs1
  obtain ⟨hTB, hK, -, -, -, -, had, -⟩ := id hE
  have ha2 : G.2.2.2.1 a = G.2.2.1 + a := had a (by have := ha.1; unfold NO at this; omega)
  have he := wrc_at G.2.1 G.2.2.1 n9 N9 M hn
  rw [ceN_arr _ _ _ _ (t := 0) ha.2 (by omega)] at he
  rw [ha2]
  refine va_iast hx hb hK hW.1 (wrc_D G n9 N9 M) hS a 0 he rfl (vp_in_int hxv h0 h1) hd (fun H1 locs1 hP1 hD1 hS1 => ?_)
  rw [arr_up y hxv h0, hyv, wrc_set _ _ _ _ N9 _ (up M a i v) _ _ (ceN_arr _ _ _ _ (t := 0) ha.2 (by omega)) (fun j hj => ceN_congr _ _ (fun i => up_ne hj i) (fun _ => rfl))] at hP1
  subst hM
  exact kk p l e s0 s m args below meth c H1 locs1 ls _ CC D hl hs2 (hW.put hn hP1 (RM_up hW.2.1 (by rw [← hyv]; exact toInt_in y)) (fun b hb => ⟨fun i => up_ne hb i, fun _ => rfl⟩)) hS1
theorem C_aastore {a n b : Nat} {i : Int} (hd : decode mi.2.1 pc = .ok (.aastore, 1)) (ha : isA 23 n a) (h0 : 0 ≤ i) (h1 : i < n) (hb : rfa a i.toNat = b) (hob : isO 4 b) (hC : CL 4 "BracketHall$Page") (hn : a < n9) (hbn : b < n9) (kk : RunC G n9 (clr N9 a i.toNat) fl R mi Z cells slots (pc + 1) L st M) : RunC G n9 N9 fl R mi Z cells slots pc L (aR b :: aI i :: aR a :: st) M := by
  intro p l e s0 s m args below meth c H locs ls vs CC D hl hs hW hS
  obtain ⟨hx, hb0, hml, hr, hlk, hown, hst, hxt, hE⟩ := id CC
  obtain ⟨vs0, rfl, hs0⟩ := Rs_ref hs
  obtain ⟨x, vs1, rfl, hxv, hs1⟩ := Rs_int hs0
  obtain ⟨vs2, rfl, hs2⟩ := Rs_ref hs1
  obtain ⟨hTB, hK, -, -, -, -, had, -⟩ := id hE
  obtain ⟨h11, T0, ty, hcl, -⟩ := hC
  have ha2 : G.2.2.2.1 a = G.2.2.1 + a := had a (by have := ha.1; unfold NO at this; omega)
  have hb2 : G.2.2.2.1 b = G.2.2.1 + b := had b (by have := hob.1; unfold NO at this; omega)
  have he := wrc_at G.2.1 G.2.2.1 n9 N9 M hn
  rw [ceN_pag _ _ _ _ ha.2] at he
  have heb := wrc_at G.2.1 G.2.2.1 n9 N9 M hbn
  rw [ceN_obj _ _ _ _ hob.2 (by omega)] at heb
  rw [ha2, hb2]
  refine va_astq hx hb0 hK hW.1 (wrc_D G n9 N9 M) hS a 3 b 4 he rfl heb hcl (vp_in_int hxv h0 h1) hd (fun H1 locs1 hP1 hD1 hS1 => ?_)
  have hi : i.toNat = x.toNatClampNeg := by have := clamp_int hxv h0; omega
  have hup : va_up (fun j => if N9 a j = true then none else some (G.2.2.1 + rfa a j)) x.toNatClampNeg (some (G.2.2.1 + b)) = (fun j => if clr N9 a i.toNat a j = true then none else some (G.2.2.1 + rfa a j)) := by
    funext j
    unfold va_up
    by_cases hj : j = x.toNatClampNeg
    · rw [if_pos hj, hj, ← hi, clr_eq, hb]
      rfl
    · rw [if_neg hj, clr_ni _ (by omega)]
  rw [hup, wrc_set _ _ _ _ (clr N9 a i.toNat) _ M _ _ (ceN_pag _ _ _ _ ha.2) (fun j hj => ceN_congr _ _ (fun i => rfl) (fun q => clr_nb _ hj q))] at hP1
  exact kk p l e s0 s m args below meth c H1 locs1 ls _ CC D hl hs2 (hW.put hn hP1 hW.2.1 (fun b hb => ⟨fun i => rfl, fun q => clr_nb _ hb q⟩)) hS1
theorem C_objInit {index a : Nat} (hd : decode mi.2.1 pc = .ok (.invokespecial index, 3)) (hl1 : Cond.methodLink mi.1 index Lib.objectInit ∈ lw_tbl) (hi : Cond.instanceMethod Lib.objectInit ∈ lw_tbl) (hc : Cond.code Lib.objectInit object_method_1_code 1 none ∈ lw_tbl) (hst0 : st = []) (hR : 1 ≤ R.frames ∧ 12 ≤ R.locals) (kk : RunC G n9 N9 fl R mi Z cells slots (pc + 3) L st M) : RunC G n9 N9 fl R mi Z cells slots pc L (aR a :: st) M := by
  intro p l e s0 s m args below meth c H locs ls vs CC D hl hs hW hS
  obtain ⟨hx, hb, hml, hr, hlk, hown, hst, hxt, hE⟩ := id CC
  obtain ⟨vs1, rfl, hs1⟩ := Rs_ref hs
  subst hst0
  have := Rs_nil hs1
  subst this
  refine W.objInit hx hb hown (hE.1.use hl1 rfl) (hE.1.use hi rfl) (hE.1.use hc rfl) rfl (hl.1.trans hml.symm) rfl hd hR.1 (by show 2 * 0 + 0 + 12 ≤ _; omega) ?_
  exact kk p l e s0 s m args below meth c H locs ls _ CC D hl trivial hW hS
end RUNC
