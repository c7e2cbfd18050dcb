/-! ===== reading and writing the abstract memory; contracts; calls ===== -/
def isO (ci a : Nat) : Prop := a < NO ∧ (ot a).1 = ci
def isA (t n a : Nat) : Prop := a < NO ∧ ot a = (t, n)
/-- a class: its words are the tables', its fields as ftT has them -/
def CL (ci : Nat) (C : String) : Prop := ci < 11 ∧ ∃ (T : u_T) (ty : Nat → FieldType), vwCl[ci]? = some (C, T, nf ci) ∧ (∀ w ∈ u_ws C T (nf ci), w ∈ lw_tbl ∧ tbOK w = true) ∧ (∀ k, k < nf ci → parseFieldDescriptor (T k).2.2.1 = some (ty k)) ∧
  (∀ a, a < nf ci → ∀ b, b < nf ci → a ≠ b → (T a).2.1 ≠ (T b).2.1) ∧ (∀ k, k < nf ci → (ft ci k).1 = 0 → ty k = .int ∧ (T k).2.2.2 = false) ∧ (∀ k, k < nf ci → (ft ci k).1 = 1 → ty k = .boolean ∧ (T k).2.2.2 = false)
/-- a field by its number in a class's pool -/
def FL (own : String) (index ci k : Nat) : Prop := k < nf ci ∧ ∃ (C : String) (T : u_T) (N : Nat), vwCl[ci]? = some (C, T, N) ∧
  (Cond.fieldLink own index (T k).1 (T k).2.1 (T k).2.2.1 ∈ lw_tbl ∨ ∃ host, Cond.fieldLinkNest own index (T k).1 (T k).2.1 (T k).2.2.1 host ∈ lw_tbl)
theorem cel_obj (ca : Nat → ClassId) (base : Nat) (M : Mem) {k ci : Nat} (h : (ot k).1 = ci) (hc : ci < 11) : cel ca base M k = .inr (ci, flds base M k ci) := by
  unfold cel
  rw [h, if_pos hc]
theorem cel_arr (ca : Nat → ClassId) (base : Nat) (M : Mem) {k t n : Nat} (h : ot k = (20 + t, n)) (ht : t < 3) : cel ca base M k = .inl (ca t, n, .inl (fun j => Int32.ofInt (M k (j : Nat)))) := by
  unfold cel
  rw [h]
  simp only
  rw [if_neg (by omega), if_neg (by omega), if_neg (by omega), Nat.add_sub_cancel_left]
theorem cel_pag (ca : Nat → ClassId) (base : Nat) (M : Mem) {k n : Nat} (h : ot k = (23, n)) : cel ca base M k = .inl (ca 3, n, .inr (.inr (.inr (.inr (fun j => some (base + rfa k j)))))) := by
  unfold cel
  rw [h]
  rfl
theorem cel_lng (ca : Nat → ClassId) (base : Nat) (M : Mem) {k n : Nat} (h : ot k = (24, n)) : cel ca base M k = .inl (ca 4, n, .inr (.inl (fun j => (Int32.ofInt (M k (j : Nat))).toInt64))) := by
  unfold cel
  rw [h]
  rfl
theorem up_ne {M : Mem} {a k : Nat} {i v : Int} (h : k ≠ a) (j : Int) : up M a i v k j = M k j := by
  unfold up
  rw [if_neg (fun q => h q.1)]
theorem up_nei {M : Mem} {a k : Nat} {i v j : Int} (h : j ≠ i) : up M a i v k j = M k j := by
  unfold up
  rw [if_neg (fun q => h q.2)]
theorem up_eq {M : Mem} {a : Nat} {i v : Int} : up M a i v a i = v := by
  unfold up
  rw [if_pos ⟨rfl, rfl⟩]
theorem flds_up (base : Nat) (M : Mem) {a ci k : Nat} (x : Int32) (hf : (ft ci k).1 ≤ 1) : (flds base M a ci).set k (.int x) = flds base (up M a k x.toInt) a ci := by
  unfold flds
  refine map_range_set _ _ _ _ _ (fun _ => ?_) (fun j hj => ?_)
  · unfold fv
    rw [if_pos hf, up_eq, Int32.ofInt_toInt]
  · unfold fv
    rw [up_nei (by omega)]
theorem RM_up {M : Mem} (h : RM M) {a : Nat} {i v : Int} (hv : inR v) : RM (up M a i v) := by
  intro k j
  unfold up
  split
  · exact hv
  · exact h k j
theorem arr_up {M : Mem} {a : Nat} {i : Int32} (x : Int32) {v : Int} (hi : i.toInt = v) (h0 : 0 ≤ v) : (upd (fun j => Int32.ofInt (M a (j : Nat))) i.toNatClampNeg x) = (fun (j : Nat) => Int32.ofInt (up M a v x.toInt a (j : Nat))) := by
  funext j
  have hc := clamp_int hi h0
  by_cases e : j = i.toNatClampNeg
  · subst e
    rw [pk_us, hc, up_eq, Int32.ofInt_toInt]
  · rw [pk_un e, up_nei (by omega)]
section MEMS
variable {G : Gl} {fl : Bool} {R : Room} {mi : MI} {Z : ZT} {cells slots pc : Nat} {L : List (Option AV)} {st : List AV} {M : Mem}
theorem R_get {index ci a k : Nat} {C : String} {v : AV} (hd : decode mi.2.1 pc = .ok (.getfield index, 3)) (hC : CL ci C) (hF : FL mi.1 index ci k) (ho : isO ci a) (hv : ∀ ad : Nat → Nat, (∀ q, q < 199 → ad q = G.2.2.1 + q) → RM M → Rv ad v (fv G.2.2.1 M a ci k)) (kk : Run G fl R mi Z cells slots (pc + 3) L (v :: st) M) : Run G fl R mi Z cells slots pc L (aR a :: st) M := by
  intro p l e s0 s m args below meth c H locs ls vs CC D hl hs hW hS
  obtain ⟨hx, hb, hml, hr, hlk, hown, hst, hxt, hE⟩ := id CC
  obtain ⟨vs1, rfl, hs1⟩ := Rs_ref hs
  obtain ⟨h11, T, ty, hcl, hin, hty, hnm, -, -⟩ := hC
  obtain ⟨hk, C2, T2, N2, hcl2, hlink⟩ := hF
  cases hcl.symm.trans hcl2
  obtain ⟨hTB, hK, -, -, -, -, had, -⟩ := id hE
  have ha2 : G.2.2.2.1 a = G.2.2.1 + a := had a (by have := ho.1; unfold NO at this; omega)
  have he : (wrl G.2.1 G.2.2.1 M)[a]? = some (G.2.2.1 + a, .inr (ci, flds G.2.2.1 M a ci)) := by rw [wrl_at _ _ _ ho.1, cel_obj _ _ _ ho.2 h11]
  have hts : ∀ w ∈ u_ws C T (nf ci), w.before args s = true := fun w h => hTB.use (hin w h).1 (hin w h).2
  rw [ha2]
  rcases hlink with hlink | ⟨host, hlink⟩
  · refine va_get hx hb hts (fun _ h => h) hown hK hW.1 a he hcl k hk (hTB.use hlink rfl) (fun _ h9 => h9) (v := fv G.2.2.1 M a ci k) ?_ hd ?_
    · unfold flds
      rw [List.getElem?_map, List.getElem?_range hk]
      rfl
    · exact kk p l e s0 s m args below meth c H locs ls _ CC D hl ⟨hv _ had hW.2, hs1⟩ hW hS
  · refine va_getN hx hb hts (fun _ h => h) hown hK hW.1 a he hcl k hk (hTB.use hlink rfl) (fun _ h9 => h9) (v := fv G.2.2.1 M a ci k) ?_ hd ?_
    · unfold flds
      rw [List.getElem?_map, List.getElem?_range hk]
      rfl
    · exact kk p l e s0 s m args below meth c H locs ls _ CC D hl ⟨hv _ had hW.2, hs1⟩ hW hS
theorem R_getI {index ci a k : Nat} {C : String} {ki v : Int} (hd : decode mi.2.1 pc = .ok (.getfield index, 3)) (hC : CL ci C) (hF : FL mi.1 index ci k) (ho : isO ci a) (hf : (ft ci k).1 ≤ 1) (hki : (k : Int) = ki) (hv : v = M a ki) (kk : Run G fl R mi Z cells slots (pc + 3) L (aI v :: st) M) : Run G fl R mi Z cells slots pc L (aR a :: st) M :=
  R_get hd hC hF ho (fun ad had hRM => by
    unfold fv
    rw [if_pos hf, hv, ← hki]
    exact ofInt_toInt (hRM _ _)) kk
theorem R_getR {index ci a k b : Nat} {C : String} (hd : decode mi.2.1 pc = .ok (.getfield index, 3)) (hC : CL ci C) (hF : FL mi.1 index ci k) (ho : isO ci a) (hf : 1 < (ft ci k).1) (hv : rf a ci k = b) (hb : b < NO) (kk : Run G fl R mi Z cells slots (pc + 3) L (aR b :: st) M) : Run G fl R mi Z cells slots pc L (aR a :: st) M :=
  R_get hd hC hF ho (fun ad had _ => by
    unfold fv
    rw [if_neg (by omega), hv]
    show _ = ad b
    rw [had b (by unfold NO at hb; omega)]) kk
theorem R_put {index ci a k : Nat} {C : String} {ki v : Int} {M' : Mem} (hd : decode mi.2.1 pc = .ok (.putfield index, 3)) (hC : CL ci C) (hF : FL mi.1 index ci k) (ho : isO ci a) (hf : (ft ci k).1 = 0 ∨ ((ft ci k).1 = 1 ∧ (v = 0 ∨ v = 1))) (hki : (k : Int) = ki) (hM : M' = up M a ki v) (kk : Run G fl R mi Z cells slots (pc + 3) L st M') : Run G fl R mi Z cells slots pc L (aI v :: aR a :: st) M := by
  subst hki
  intro p l e s0 s m args below meth c H locs ls vs CC D hl hs hW hS
  obtain ⟨hx, hb, hml, hr, hlk, hown, hst, hxt, hE⟩ := id CC
  obtain ⟨x, vs1, rfl, hxv, hs1⟩ := Rs_int hs
  obtain ⟨vs2, rfl, hs2⟩ := Rs_ref hs1
  obtain ⟨h11, T, ty, hcl, hin, hty, hnm, hi0, hi1⟩ := hC
  obtain ⟨hk, C2, T2, N2, hcl2, hlink⟩ := hF
  cases hcl.symm.trans hcl2
  obtain ⟨hTB, hK, -, -, -, -, had, -⟩ := id hE
  have ha2 : G.2.2.2.1 a = G.2.2.1 + a := had a (by have := ho.1; unfold NO at this; omega)
  have he : (wrl G.2.1 G.2.2.1 M)[a]? = some (G.2.2.1 + a, .inr (ci, flds G.2.2.1 M a ci)) := by rw [wrl_at _ _ _ ho.1, cel_obj _ _ _ ho.2 h11]
  have hts : ∀ w ∈ u_ws C T (nf ci), w.before args s = true := fun w h => hTB.use (hin w h).1 (hin w h).2
  have hf1 : (ft ci k).1 ≤ 1 := by rcases hf with h | h <;> omega
  have hfin : (T k).2.2.2 = false := by rcases hf with h | h; exact (hi0 k hk h).2; exact (hi1 k hk h.1).2
  have hn : narrow (ty k) (.int x) = .int x := by
    rcases hf with h | ⟨h, h2⟩
    · rw [(hi0 k hk h).1]; rfl
    · rw [(hi1 k hk h).1]
      rcases h2 with h2 | h2
      · have : x = 0 := (i_eq hxv i_z).mpr h2
        subst this; rfl
      · have : x = 1 := (i_eq hxv (show (1 : Int32).toInt = 1 from rfl)).mpr h2
        subst this; rfl
  have hfit : fits (ty k) (.int x) = true := by
    rcases hf with h | ⟨h, h2⟩
    · rw [(hi0 k hk h).1]; rfl
    · rw [(hi1 k hk h).1]
      rcases h2 with h2 | h2
      · have : x = 0 := (i_eq hxv i_z).mpr h2
        subst this; rfl
      · have : x = 1 := (i_eq hxv (show (1 : Int32).toInt = 1 from rfl)).mpr h2
        subst this; rfl
  have hW' : (wrl G.2.1 G.2.2.1 M).set a (G.2.2.1 + a, .inr (ci, (flds G.2.2.1 M a ci).set k (.int x))) = wrl G.2.1 G.2.2.1 M' := by
    subst hM
    refine wrl_set _ _ _ _ _ _ ?_ (fun j hj => cel_congr _ _ (fun i => up_ne hj i))
    rw [cel_obj _ _ _ ho.2 h11, flds_up _ _ _ hf1, hxv]
  have hRM' : RM M' := by
    subst hM
    exact RM_up hW.2 (by rw [← hxv]; exact toInt_in x)
  have hlen : k < (flds G.2.2.1 M a ci).length := by simpa [flds] using hk
  rw [ha2]
  rcases hlink with hlink | ⟨host, hlink⟩
  · refine va_put hx hb hts (fun _ h => h) ty hty hnm hown hK hW.1 (wrl_D G M) hS a he hcl k hk (hTB.use hlink rfl) (fun _ h9 => h9) hfin (hty k hk) hn hfit hlen hd (fun H1 locs1 hP1 hD1 hS1 => ?_)
    rw [hW'] at hP1
    exact kk p l e s0 s m args below meth c H1 locs1 ls _ CC D hl hs2 ⟨hP1, hRM'⟩ hS1
  · refine va_putN hx hb hts (fun _ h => h) ty hty hnm hown hK hW.1 (wrl_D G M) hS a he hcl k hk (hTB.use hlink rfl) (fun _ h9 => h9) hfin (hty k hk) hn hfit hlen hd (fun H1 locs1 hP1 hD1 hS1 => ?_)
    rw [hW'] at hP1
    exact kk p l e s0 s m args below meth c H1 locs1 ls _ CC D hl hs2 ⟨hP1, hRM'⟩ hS1
theorem R_iaload {a n : Nat} {i v : Int} (hd : decode mi.2.1 pc = .ok (.iaload, 1)) (ha : isA 20 n a) (h0 : 0 ≤ i) (h1 : i < n) (hv : v = M a i) (kk : Run G fl R mi Z cells slots (pc + 1) L (aI v :: st) M) : Run G fl R mi Z cells slots pc L (aI i :: aR a :: st) M := by
  intro p l e s0 s m args below meth c H locs ls vs CC D hl hs hW hS
  obtain ⟨hx, hb, hml, hr, hlk, hown, hst, hxt, hE⟩ := id CC
  obtain ⟨x, vs1, rfl, hxv, hs1⟩ := Rs_int hs
  obtain ⟨vs2, rfl, hs2⟩ := Rs_ref hs1
  obtain ⟨hTB, hK, -, -, -, -, had, -⟩ := id hE
  have ha2 : G.2.2.2.1 a = G.2.2.1 + a := had a (by have := ha.1; unfold NO at this; omega)
  have he := wrl_at G.2.1 G.2.2.1 M ha.1
  rw [cel_arr _ _ _ (t := 0) ha.2 (by omega)] at he
  rw [ha2]
  refine va_iald hx hb hK hW.1 a 0 he rfl (vp_in_int hxv h0 h1) hd ?_
  refine kk p l e s0 s m args below meth c H locs ls _ CC D hl ⟨?_, hs2⟩ hW hS
  show (Int32.ofInt (M a (x.toNatClampNeg : Nat))).toInt = v
  rw [ofInt_toInt (hW.2 _ _), clamp_int hxv h0, hv]
theorem R_zaload {a n : Nat} {i v : Int} (hd : decode mi.2.1 pc = .ok (.baload, 1)) (ha : isA 21 n a) (h0 : 0 ≤ i) (h1 : i < n) (hv : v = M a i) (kk : Run G fl R mi Z cells slots (pc + 1) L (aI v :: st) M) : Run G fl R mi Z cells slots pc L (aI i :: aR a :: st) M := by
  intro p l e s0 s m args below meth c H locs ls vs CC D hl hs hW hS
  obtain ⟨hx, hb, hml, hr, hlk, hown, hst, hxt, hE⟩ := id CC
  obtain ⟨x, vs1, rfl, hxv, hs1⟩ := Rs_int hs
  obtain ⟨vs2, rfl, hs2⟩ := Rs_ref hs1
  obtain ⟨hTB, hK, -, -, -, -, had, -⟩ := id hE
  have ha2 : G.2.2.2.1 a = G.2.2.1 + a := had a (by have := ha.1; unfold NO at this; omega)
  have he := wrl_at G.2.1 G.2.2.1 M ha.1
  rw [cel_arr _ _ _ (t := 1) ha.2 (by omega)] at he
  rw [ha2]
  refine va_zald hx hb hK hW.1 a 1 he rfl (vp_in_int hxv h0 h1) hd ?_
  refine kk p l e s0 s m args below meth c H locs ls _ CC D hl ⟨?_, hs2⟩ hW hS
  show (Int32.ofInt (M a (x.toNatClampNeg : Nat))).toInt = v
  rw [ofInt_toInt (hW.2 _ _), clamp_int hxv h0, hv]
theorem R_baload {a n : Nat} {i v : Int} (hd : decode mi.2.1 pc = .ok (.baload, 1)) (ha : isA 22 n a) (h0 : 0 ≤ i) (h1 : i < n) (hv : v = M a i) (kk : Run G fl R mi Z cells slots (pc + 1) L (aI v :: st) M) : Run G fl R mi Z cells slots pc L (aI i :: aR a :: st) M := by
  intro p l e s0 s m args below meth c H locs ls vs CC D hl hs hW hS
  obtain ⟨hx, hb, hml, hr, hlk, hown, hst, hxt, hE⟩ := id CC
  obtain ⟨x, vs1, rfl, hxv, hs1⟩ := Rs_int hs
  obtain ⟨vs2, rfl, hs2⟩ := Rs_ref hs1
  obtain ⟨hTB, hK, -, -, -, -, had, -⟩ := id hE
  have ha2 : G.2.2.2.1 a = G.2.2.1 + a := had a (by have := ha.1; unfold NO at this; omega)
  have he := wrl_at G.2.1 G.2.2.1 M ha.1
  rw [cel_arr _ _ _ (t := 2) ha.2 (by omega)] at he
  rw [ha2]
  refine va_bald hx hb hK hW.1 a 2 he rfl (vp_in_int hxv h0 h1) hd ?_
  refine kk p l e s0 s m args below meth c H locs ls _ CC D hl ⟨?_, hs2⟩ hW hS
  show (Int32.ofInt (M a (x.toNatClampNeg : Nat))).toInt = v
  rw [ofInt_toInt (hW.2 _ _), clamp_int hxv h0, hv]
theorem R_iastore {a n : Nat} {i v : Int} {M' : Mem} (hd : decode mi.2.1 pc = .ok (.iastore, 1)) (ha : isA 20 n a) (h0 : 0 ≤ i) (h1 : i < n) (hM : M' = up M a i v) (kk : Run G fl R mi Z cells slots (pc + 1) L st M') : Run G fl R mi Z cells slots pc L (aI v :: aI i :: aR a :: st) M := by
  intro p l e s0 s m args below meth c H locs ls vs CC D hl hs hW hS
  obtain ⟨hx, hb, hml, hr, hlk, hown, hst, hxt, hE⟩ := id CC
  obtain ⟨y, vs0, rfl, hyv, hs0⟩ := Rs_int hs
  obtain ⟨x, vs1, rfl, hxv, hs1⟩ := Rs_int hs0
  obtain ⟨vs2, rfl, hs2⟩ := Rs_ref hs1
  obtain ⟨hTB, hK, -, -, -, -, had, -⟩ := id hE
  have ha2 : G.2.2.2.1 a = G.2.2.1 + a := had a (by have := ha.1; unfold NO at this; omega)
  have he := wrl_at G.2.1 G.2.2.1 M ha.1
  rw [cel_arr _ _ _ (t := 0) ha.2 (by omega)] at he
  rw [ha2]
  refine va_iast hx hb hK hW.1 (wrl_D G M) hS a 0 he rfl (vp_in_int hxv h0 h1) hd (fun H1 locs1 hP1 hD1 hS1 => ?_)
  rw [arr_up y hxv h0, hyv, wrl_set _ _ _ (up M a i v) _ _ (cel_arr _ _ _ (t := 0) ha.2 (by omega)) (fun j hj => cel_congr _ _ (fun i => up_ne hj i))] at hP1
  subst hM
  exact kk p l e s0 s m args below meth c H1 locs1 ls _ CC D hl hs2 ⟨hP1, RM_up hW.2 (by rw [← hyv]; exact toInt_in y)⟩ hS1
theorem R_zastore {a n : Nat} {i v : Int} {M' : Mem} (hd : decode mi.2.1 pc = .ok (.bastore, 1)) (ha : isA 21 n a) (h0 : 0 ≤ i) (h1 : i < n) (h01 : v = 0 ∨ v = 1) (hM : M' = up M a i v) (kk : Run G fl R mi Z cells slots (pc + 1) L st M') : Run G fl R mi Z cells slots pc L (aI v :: aI i :: aR a :: st) M := by
  intro p l e s0 s m args below meth c H locs ls vs CC D hl hs hW hS
  obtain ⟨hx, hb, hml, hr, hlk, hown, hst, hxt, hE⟩ := id CC
  obtain ⟨y, vs0, rfl, hyv, hs0⟩ := Rs_int hs
  obtain ⟨x, vs1, rfl, hxv, hs1⟩ := Rs_int hs0
  obtain ⟨vs2, rfl, hs2⟩ := Rs_ref hs1
  obtain ⟨hTB, hK, -, -, -, -, had, -⟩ := id hE
  have ha2 : G.2.2.2.1 a = G.2.2.1 + a := had a (by have := ha.1; unfold NO at this; omega)
  have he := wrl_at G.2.1 G.2.2.1 M ha.1
  rw [cel_arr _ _ _ (t := 1) ha.2 (by omega)] at he
  rw [ha2]
  have hy2 : vp_nar .boolean y = y := by
    rcases h01 with h | h
    · have : y = 0 := (i_eq hyv i_z).mpr h
      subst this; rfl
    · have : y = 1 := (i_eq hyv (show (1 : Int32).toInt = 1 from rfl)).mpr h
      subst this; rfl
  refine va_zast hx hb hK hW.1 (wrl_D G M) hS a 1 he rfl (vp_in_int hxv h0 h1) hd (fun H1 locs1 hP1 hD1 hS1 => ?_)
  rw [hy2, arr_up y hxv h0, hyv, wrl_set _ _ _ (up M a i v) _ _ (cel_arr _ _ _ (t := 1) ha.2 (by omega)) (fun j hj => cel_congr _ _ (fun i => up_ne hj i))] at hP1
  subst hM
  exact kk p l e s0 s m args below meth c H1 locs1 ls _ CC D hl hs2 ⟨hP1, RM_up hW.2 (by rw [← hyv]; exact toInt_in y)⟩ hS1
theorem R_bastore {a n : Nat} {i v : Int} {M' : Mem} (hd : decode mi.2.1 pc = .ok (.bastore, 1)) (ha : isA 22 n a) (h0 : 0 ≤ i) (h1 : i < n) (hM : M' = up M a i (itb v)) (kk : Run G fl R mi Z cells slots (pc + 1) L st M') : Run G fl R mi Z cells slots pc L (aI v :: aI i :: aR a :: st) M := by
  intro p l e s0 s m args below meth c H locs ls vs CC D hl hs hW hS
  obtain ⟨hx, hb, hml, hr, hlk, hown, hst, hxt, hE⟩ := id CC
  obtain ⟨y, vs0, rfl, hyv, hs0⟩ := Rs_int hs
  obtain ⟨x, vs1, rfl, hxv, hs1⟩ := Rs_int hs0
  obtain ⟨vs2, rfl, hs2⟩ := Rs_ref hs1
  obtain ⟨hTB, hK, -, -, -, -, had, -⟩ := id hE
  have ha2 : G.2.2.2.1 a = G.2.2.1 + a := had a (by have := ha.1; unfold NO at this; omega)
  have he := wrl_at G.2.1 G.2.2.1 M ha.1
  rw [cel_arr _ _ _ (t := 2) ha.2 (by omega)] at he
  rw [ha2]
  have hyb : (vp_nar .byte y).toInt = itb v := by
    rw [vp_nar_byte]; unfold itb; rw [ofInt_of hyv]
  refine va_bast hx hb hK hW.1 (wrl_D G M) hS a 2 he rfl (vp_in_int hxv h0 h1) hd (fun H1 locs1 hP1 hD1 hS1 => ?_)
  rw [arr_up _ hxv h0, hyb, wrl_set _ _ _ (up M a i (itb v)) _ _ (cel_arr _ _ _ (t := 2) ha.2 (by omega)) (fun j hj => cel_congr _ _ (fun i => up_ne hj i))] at hP1
  subst hM
  exact kk p l e s0 s m args below meth c H1 locs1 ls _ CC D hl hs2 ⟨hP1, RM_up hW.2 (by rw [← hyb]; exact toInt_in _)⟩ hS1
theorem R_aaload {a n : Nat} {i : Int} {b : Nat} (hd : decode mi.2.1 pc = .ok (.aaload, 1)) (ha : isA 23 n a) (h0 : 0 ≤ i) (h1 : i < n) (hv : b = rfa a i.toNat) (hb : b < NO) (kk : Run G fl R mi Z cells slots (pc + 1) L (aR b :: st) M) : Run G fl R mi Z cells slots pc L (aI i :: aR a :: st) M := by
  intro p l e s0 s m args below meth c H locs ls vs CC D hl hs hW hS
  obtain ⟨hx, hb', hml, hr, hlk, hown, hst, hxt, hE⟩ := id CC
  obtain ⟨x, vs1, rfl, hxv, hs1⟩ := Rs_int hs
  obtain ⟨vs2, rfl, hs2⟩ := Rs_ref hs1
  obtain ⟨hTB, hK, -, -, -, -, had, -⟩ := id hE
  have ha2 : G.2.2.2.1 a = G.2.2.1 + a := had a (by have := ha.1; unfold NO at this; omega)
  have he := wrl_at G.2.1 G.2.2.1 M ha.1
  rw [cel_pag _ _ _ ha.2] at he
  rw [ha2]
  refine va_aldq hx hb' hK hW.1 a 3 he rfl (vp_in_int hxv h0 h1) hd ?_
  refine kk p l e s0 s m args below meth c H locs ls _ CC D hl ⟨?_, hs2⟩ hW hS
  show G.2.2.1 + rfa a x.toNatClampNeg = G.2.2.2.1 b
  have : x.toNatClampNeg = i.toNat := by have := clamp_int hxv h0; omega
  rw [this, ← hv, had b (by unfold NO at hb; omega)]
theorem sum_cat (vs : List Value) : (vs.map fun v => v.category).sum ≤ 2 * vs.length := by
  induction vs with
  | nil => simp
  | cons v vs ih =>
    have : v.category ≤ 2 := by rcases lv_cat v with h | h <;> omega
    simp only [List.map_cons, List.sum_cons, List.length_cons]
    omega
theorem Rs_len {ad : Nat → Nat} : ∀ {as : List AV} {vs : List Value}, Rs ad as vs → vs.length = as.length := by
  intro as
  induction as with
  | nil => intro vs h; rw [Rs_nil h]; rfl
  | cons a as ih =>
    intro vs h
    obtain ⟨v, vs', rfl, h1, h2⟩ := Rs_cons h
    simp [ih h2]
theorem cat_le {ad : Nat → Nat} {as : List AV} {vs : List Value} (h : Rs ad as vs) {k : Nat} (hk : 2 * as.length ≤ k) : (vs.map fun v => v.category).sum ≤ k := Nat.le_trans (sum_cat vs) (by rw [Rs_len h]; exact hk)
def ML (own : String) (index : Nat) (y : MethodName) : Prop := Cond.methodLink own index y ∈ lw_tbl ∨ ∃ host, Cond.methodLinkNest own index y host ∈ lw_tbl
theorem R_min {index : Nat} {a b v : Int} (hd : decode mi.2.1 pc = .ok (.invokestatic index, 3)) (hl0 : Cond.methodLink mi.1 index Lib.Math.min.name ∈ lw_tbl) (hw : Cond.static Lib.Math.min.name ∈ lw_tbl ∧ Cond.initialized "java/lang/Math" ∈ lw_tbl ∧ Cond.code Lib.Math.min.name Lib.Math.min.code 2 (some .int) ∈ lw_tbl) (hR : 1 ≤ R.frames ∧ 21 ≤ R.locals ∧ cells ≤ R.cells ∧ slots ≤ R.slots) (hst : 2 * st.length ≤ 8) (hv : v = if b < a then b else a) (kk : Run G fl R mi Z cells slots (pc + 3) L (aI v :: st) M) : Run G fl R mi Z cells slots pc L (aI b :: aI a :: st) M := by
  intro p l e s0 s m args below meth c H locs ls vs CC D hl hs hW hS
  obtain ⟨hx, hb, hml, hr, hlk, hown, hst', hxt, hE⟩ := id CC
  obtain ⟨y, vs1, rfl, hyv, hs1⟩ := Rs_int hs
  obtain ⟨x, vs2, rfl, hxv, hs2⟩ := Rs_int hs1
  have hTB := hE.1
  have hc := cat_le hs2 hst
  refine va_mmin hx hb (hml.trans hl.1.symm) hown (hTB.use hl0 rfl) (hTB.use hw.1 rfl) (hTB.use hw.2.1 rfl) (hTB.use hw.2.2 rfl) hR.1 (by omega) hR.2.2.1 hR.2.2.2 hd ?_
  refine kk p l e s0 s m args below meth c H locs ls _ CC D hl ⟨?_, hs2⟩ hW hS
  show (if y < x then y else x).toInt = v
  subst hv
  by_cases h : y < x
  · rw [if_pos h, if_pos ((i_lt hyv hxv).mp h), hyv]
  · rw [if_neg h, if_neg (fun q => h ((i_lt hyv hxv).mpr q)), hxv]
theorem R_max {index : Nat} {a b v : Int} (hd : decode mi.2.1 pc = .ok (.invokestatic index, 3)) (hl0 : Cond.methodLink mi.1 index Lib.Math.max.name ∈ lw_tbl) (hw : Cond.static Lib.Math.max.name ∈ lw_tbl ∧ Cond.initialized "java/lang/Math" ∈ lw_tbl ∧ Cond.code Lib.Math.max.name Lib.Math.max.code 2 (some .int) ∈ lw_tbl) (hR : 1 ≤ R.frames ∧ 21 ≤ R.locals ∧ cells ≤ R.cells ∧ slots ≤ R.slots) (hst : 2 * st.length ≤ 8) (hv : v = if a < b then b else a) (kk : Run G fl R mi Z cells slots (pc + 3) L (aI v :: st) M) : Run G fl R mi Z cells slots pc L (aI b :: aI a :: st) M := by
  intro p l e s0 s m args below meth c H locs ls vs CC D hl hs hW hS
  obtain ⟨hx, hb, hml, hr, hlk, hown, hst', hxt, hE⟩ := id CC
  obtain ⟨y, vs1, rfl, hyv, hs1⟩ := Rs_int hs
  obtain ⟨x, vs2, rfl, hxv, hs2⟩ := Rs_int hs1
  have hTB := hE.1
  have hc := cat_le hs2 hst
  refine va_mmax hx hb (hml.trans hl.1.symm) hown (hTB.use hl0 rfl) (hTB.use hw.1 rfl) (hTB.use hw.2.1 rfl) (hTB.use hw.2.2 rfl) hR.1 (by omega) hR.2.2.1 hR.2.2.2 hd ?_
  refine kk p l e s0 s m args below meth c H locs ls _ CC D hl ⟨?_, hs2⟩ hW hS
  show (if x < y then y else x).toInt = v
  subst hv
  by_cases h : x < y
  · rw [if_pos h, if_pos ((i_lt hxv hyv).mp h), hyv]
  · rw [if_neg h, if_neg (fun q => h ((i_lt hxv hyv).mpr q)), hxv]
theorem R_copy {index : Nat} {a na b nb : Nat} {sp dp n : Int} {M' : Mem} (hd : decode mi.2.1 pc = .ok (.invokestatic index, 3)) (hl0 : Cond.methodLink mi.1 index arraycopyName ∈ lw_tbl) (hw : Cond.native arraycopyName ∈ lw_tbl ∧ Cond.static arraycopyName ∈ lw_tbl ∧ Cond.initialized "java/lang/System" ∈ lw_tbl) (hR : 1 ≤ R.frames ∧ 37 ≤ R.locals) (hst : 2 * st.length ≤ 8)
    (ha : isA 20 na a) (hb : isA 20 nb b) (h1 : 0 ≤ sp) (h2 : 0 ≤ dp) (h3 : 0 ≤ n) (h4 : sp + n ≤ na) (h5 : dp + n ≤ nb) (hM : M' = upc M a sp b dp n) (kk : Run G fl R mi Z cells slots (pc + 3) L st M') : Run G fl R mi Z cells slots pc L (aI n :: aI dp :: aR b :: aI sp :: aR a :: st) M := by
  intro p l e s0 s m args below meth c H locs ls vs CC D hl hs hW hS
  obtain ⟨hx, hb', hml, hr, hlk, hown, hst', hxt, hE⟩ := id CC
  obtain ⟨xn, vs1, rfl, hn, hs1⟩ := Rs_int hs
  obtain ⟨xd, vs2, rfl, hdp, hs2⟩ := Rs_int hs1
  obtain ⟨vs3, rfl, hs3⟩ := Rs_ref hs2
  obtain ⟨xs, vs4, rfl, hsp, hs4⟩ := Rs_int hs3
  obtain ⟨vs5, rfl, hs5⟩ := Rs_ref hs4
  obtain ⟨hTB, hK, -, -, -, -, had, -⟩ := id hE
  have hc := cat_le hs5 hst
  have ha2 : G.2.2.2.1 a = G.2.2.1 + a := had a (by have := ha.1; unfold NO at this; omega)
  have hb2 : G.2.2.2.1 b = G.2.2.1 + b := had b (by have := hb.1; unfold NO at this; omega)
  have hea := wrl_at G.2.1 G.2.2.1 M ha.1
  rw [cel_arr _ _ _ (t := 0) ha.2 (by omega)] at hea
  have heb := wrl_at G.2.1 G.2.2.1 M hb.1
  rw [cel_arr _ _ _ (t := 0) hb.2 (by omega)] at heb
  have cn := clamp_int hn h3
  have cd := clamp_int hdp h2
  have cs := clamp_int hsp h1
  have nneg : ∀ {x : Int32} {i : Int}, x.toInt = i → 0 ≤ i → ¬ x < 0 := fun hx h q => by have := (i_lt hx i_z).mp q; omega
  have hnw : nativeFrameWords "java/lang/System" "arraycopy" 5 ≤ 18 := by decide +kernel
  rw [ha2, hb2]
  refine va_copyi hx hb' (hml.trans hl.1.symm) hown (hTB.use hl0 rfl) (hTB.use hw.1 rfl) (hTB.use hw.2.1 rfl) (hTB.use hw.2.2 rfl) hK hW.1 (wrl_D G M) hS a b 0 0 hea heb rfl rfl rfl (nneg hsp h1) (nneg hdp h2) (nneg hn h3) (by omega) (by omega) (fun _ _ => rfl) hR.1 (by omega) hd (fun H1 locs1 hP1 hD1 hS1 => ?_)
  have hf : va_cpy (fun j => Int32.ofInt (M a (j : Nat))) (fun j => Int32.ofInt (M b (j : Nat))) xs.toNatClampNeg xd.toNatClampNeg xn.toNatClampNeg = fun (j : Nat) => Int32.ofInt (upc M a sp b dp n b (j : Nat)) := by
    funext j
    unfold va_cpy upc
    by_cases h : xd.toNatClampNeg ≤ j ∧ j < xd.toNatClampNeg + xn.toNatClampNeg
    · rw [if_pos h, if_pos ⟨rfl, by omega, by omega⟩]
      have e : ((xs.toNatClampNeg + (j - xd.toNatClampNeg) : Nat) : Int) = sp + ((j : Int) - dp) := by omega
      show Int32.ofInt (M a ((xs.toNatClampNeg + (j - xd.toNatClampNeg) : Nat) : Int)) = _
      rw [e]
    · rw [if_neg h, if_neg (fun q => h ⟨by have := q.2.1; omega, by have := q.2.2; omega⟩)]
  rw [hf, wrl_set _ _ _ (upc M a sp b dp n) _ _ (cel_arr _ _ _ (t := 0) hb.2 (by omega)) (fun j hj => cel_congr _ _ (fun i => by unfold upc; rw [if_neg (fun q => hj q.1)]))] at hP1
  subst hM
  refine kk p l e s0 s m args below meth c H1 locs1 ls _ CC D hl hs5 ⟨hP1, fun k i => ?_⟩ hS1
  unfold upc
  split
  · exact hW.2 _ _
  · exact hW.2 _ _
end MEMS
