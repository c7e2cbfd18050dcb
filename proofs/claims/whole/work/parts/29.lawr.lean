/-! ===== the law's own rows: the script, the end ===== -/
abbrev miL_law (xt : List (Nat × Nat × Nat × Nat)) : MI := (R_law, code, 9, ret, xt)
def sxs (G : Gl) (i : Int) : Int := (G.2.2.2.2.2 i.toNat).toInt
theorem lw_retA {p : Program} {l : Launch} {e : Env} {s : State} {m : MethodId} {args : Array Value} {below : List Frame} {meth : Method} {c : Code} {d0 : Drawn} (hd0 : s.drawn.sameBut d0 lw_cs) (hx : p.tables.exec = Jvm.exec) (hb : c.code = code) (hr : meth.sig.returnType = ret) (hlocks : meth.locks = false) {pc : Nat} {H : Heap} {ls : Array Slot} (hdg : decode code pc = .ok (.ireturn, 1)) : W p l e room_1 (s.setDrawn d0) m args below meth c H [] 601024 7293034 (lw_Z below args s) (F0 m pc ls [.int 1]) := by
  intro T hT X
  obtain ⟨fs, hret, hrun, hended, hW, hframe⟩ := X.leave (v := some (.int 1)) (hlocks := hlocks) (fun h => by rw [hr] at h; cases h)
  have hmeth' : T.vm.method? m = some meth := X.method'
  refine ⟨T.setFrames fs, ?_, .returned (some (.int 1)), hrun, hended, rfl, lw_closed hd0 ⟨_, rfl⟩ hW hframe⟩
  jvm_step X.here [X.here.top, hx, hb, hdg, hmeth', hr, ret, narrow_b1]
  (try refine ⟨rfl, ?_⟩); (try refine ⟨rfl, ?_⟩)
  first | (intro acts; rw [hret _ acts rfl rfl rfl]) | rw [hret _ _ rfl rfl rfl]
  exact Steps.refl _
def ZL (G : Gl) : ZT := fun below args s0 t => s0.heap.size = G.2.2.1 → lw_Z below args s0 t
section LAWR
variable {xt : List (Nat × Nat × Nat × Nat)}
variable {G : Gl} {fl : Bool} {R : Room} {mi : MI} {Z : ZT} {cells slots pc : Nat} {L : List (Option AV)} {st : List AV} {M : Mem}
theorem R_sload {i v : Int} (hd : decode mi.2.1 pc = .ok (.iaload, 1)) (h0 : 0 ≤ i) (h1 : i < (G.2.2.2.2.1 : Nat)) (hv : v = sxs G i) (k : Run G fl R mi Z cells slots (pc + 1) L (aI v :: st) M) : Run G fl R mi Z cells slots pc L (aI i :: aR 199 :: st) M := by
  intro p l e s0 s m args below meth c H locs ls vs CC D hl hs hW hS
  obtain ⟨hx, hb, hml, hr, hlk, hown, hst, hxt, hE⟩ := id CC
  obtain ⟨x, vs1, rfl, hxv, hs1⟩ := Rs_int hs
  obtain ⟨vs2, rfl, hs2⟩ := Rs_ref hs1
  obtain ⟨-, -, -, -, -, -, -, hbs, -, -, -, hX, hlt⟩ := id hE
  refine va_sld hx hb hX (Nat.lt_of_lt_of_le hlt hbs) (Nat.not_le.mpr hlt) hS (vp_in_int hxv h0 h1) hd ?_
  refine k p l e s0 s m args below meth c H locs ls _ CC D hl ⟨?_, hs2⟩ hW hS
  show (G.2.2.2.2.2 x.toNatClampNeg).toInt = v
  rw [hv]
  unfold sxs
  have := clamp_int hxv h0
  rw [show i.toNat = x.toNatClampNeg by omega]
theorem R_slenS (hd : decode mi.2.1 pc = .ok (.arraylength, 1)) (hL : G.2.2.2.2.1 ≤ 3072) (k : Run G fl R mi Z cells slots (pc + 1) L (aI (G.2.2.2.2.1 : Nat) :: st) M) : Run G fl R mi Z cells slots pc L (aR 199 :: st) M := by
  intro p l e s0 s m args below meth c H locs ls vs CC D hl hs hW hS
  obtain ⟨hx, hb, hml, hr, hlk, hown, hst, hxt, hE⟩ := id CC
  obtain ⟨vs2, rfl, hs2⟩ := Rs_ref hs
  obtain ⟨-, -, -, -, -, -, -, hbs, -, -, -, hX, hlt⟩ := id hE
  refine va_slen hx hb hX (Nat.lt_of_lt_of_le hlt hbs) (Nat.not_le.mpr hlt) hS hd ?_
  refine k p l e s0 s m args below meth c H locs ls _ CC D hl ⟨?_, hs2⟩ hW hS
  show (Int32.ofNat G.2.2.2.2.1).toInt = ((G.2.2.2.2.1 : Nat) : Int)
  exact ofInt_toInt (i := ((G.2.2.2.2.1 : Nat) : Int)) ⟨by omega, by omega⟩
theorem E_lawret (hd : decode code pc = .ok (.ireturn, 1)) (hc : cells ≤ 601024) (hs : slots ≤ 7293034) : Run G true room_1 (miL_law xt) (ZL G) cells slots pc L [aI 1] M := by
  intro p l e s0 s m args below meth c H locs ls vs CC D hl hs2 hW hS
  obtain ⟨hx, hb, hml, hr, hlk, hown, hst, hxt, hE⟩ := id CC
  obtain ⟨x, vs1, rfl, hxv, hs1⟩ := Rs_int hs2
  have := Rs_nil hs1
  subst this
  obtain ⟨d0, hd0, rfl⟩ := D
  have hx1 : x = 1 := (i_eq hxv (show (1 : Int32).toInt = 1 from rfl)).mpr rfl
  subst hx1
  by_cases hb0 : s0.heap.size = G.2.2.1
  · have key : W p l e room_1 (s0.setDrawn d0) m args below meth c H locs cells slots (lw_Z below args s0) (F0 m pc ls [.int 1]) := by
      refine va_forget (fun q hq => ?_) (W.widen hc hs (lw_retA hd0 hx hb hr hlk hd))
      have h9 : G.2.2.1 ≤ q.base := hS.2.2 q hq
      show s0.heap.size ≤ q.base
      omega
    intro T hT X
    obtain ⟨t, a, b⟩ := key T hT X
    exact ⟨t, a, fun _ => b⟩
  · intro T hT X
    exact ⟨_, Steps.refl _, fun h => absurd h hb0⟩
end LAWR
