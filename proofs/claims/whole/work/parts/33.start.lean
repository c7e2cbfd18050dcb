/-! ===== the start: what is given of it ===== -/
abbrev nrw : List Cond := flatC (Jvm.Cond.and given_1 narrow_1)
def posT : List Nat := [67, 90, 99, 108, 118, 126, 137, 146, 163, 190, 210, 239, 255, 282, 298, 328, 344, 361, 378, 402, 423, 432, 439, 447, 455, 465, 473, 489, 510, 520, 530, 541, 550, 562, 572, 582, 590, 599, 608, 619]
def sOwn (j : Nat) : String := (strT.getD j ("", 0, "")).1
def sIdx (j : Nat) : Nat := (strT.getD j ("", 0, "")).2.1
def sTm (j : Nat) : Term := .string (sOwn j) (sIdx j)
def sVal (j : Nat) : Term := .field (sTm j) "java/lang/String" "value" "[B"
def sChk (j : Nat) : Bool := decide (nrw[posT.getD j 0]? = some (.exactly (sTm j) "java/lang/String")) && decide (nrw[posT.getD j 0 + 1]? = some (.eq (.field (sTm j) "java/lang/String" "coder" "B") (.int 0))) &&
  decide (nrw[posT.getD j 0 + 2]? = some (.arrayOf (sVal j) .byte)) && decide (nrw[posT.getD j 0 + 3]? = some (.eq (.length (sVal j)) (.int (Int32.ofNat (lenT.getD j 0))))) &&
  decide (lenT.getD j 0 < 1000) && (List.range (lenT.getD j 0)).all (fun k => decide (nrw[posT.getD j 0 + 4 + k]? = some (.eq (.elem (sVal j) (.int (Int32.ofNat k))) (.int ((bytT.getD j []).getD k 0)))))
theorem sChk_ok : (List.range NS).all sChk = true := by decide +kernel
theorem sRef_ok : ∀ q ∈ strT, Cond.stringRef q.1 q.2.1 q.2.2 ∈ lw_tbl := by
  have h : ∀ q ∈ strT, Cond.stringRef q.1 q.2.1 q.2.2 ∈ tables_1 := by decide +kernel
  exact fun q hq => inT (h q hq)
theorem ncT_ok : ∀ q ∈ ncT, Cond.not (.castable q.1 q.2) ∈ nrw := by decide +kernel
theorem str_ok {args : Array Value} {s : State} {A : Nat → Prop} (hs : ∀ c ∈ nrw, c.before args s = true) (hA : ∀ a : Nat, a < s.heap.size → ¬ A a) {j : Nat} (hj : j < NS) :
    ∃ q : Nat × Nat, vk_S 1 [lenT.getD j 0] [bytT.getD j []] (fun _ => q.1) (fun _ => q.2) A s s.heap ∧ (sTm j).eval args s none [] s = some (.ref q.1) := by
  have hc : sChk j = true := List.all_eq_true.mp sChk_ok j (List.mem_range.mpr hj)
  unfold sChk at hc
  simp only [Bool.and_eq_true, decide_eq_true_eq, List.all_eq_true, List.mem_range] at hc
  obtain ⟨⟨⟨⟨⟨c1, c2⟩, c3⟩, c4⟩, c5⟩, c6⟩ := hc
  have i0 : ∀ i : Nat, i < 1 → i = 0 := fun i hi => by omega
  obtain ⟨adK, adV, h1, h2⟩ := vk_Sof (args := args) (s := s) (N := 1) (tm := fun _ => sTm j) (len := [lenT.getD j 0]) (byt := [bytT.getD j []]) (A := A)
    (fun i hi => by rw [i0 i hi]; show lenT.getD j 0 < 2 ^ 31; omega)
    (fun i hi => hs _ (List.mem_of_getElem? c1)) (fun i hi => hs _ (List.mem_of_getElem? c2)) (fun i hi => hs _ (List.mem_of_getElem? c3))
    (fun i hi => by rw [i0 i hi]; exact hs _ (List.mem_of_getElem? c4))
    (fun i hi k hk => by rw [i0 i hi] at hk ⊢; exact hs _ (List.mem_of_getElem? (c6 k hk)))
    (fun i k hi hk hik => absurd ((i0 i hi).trans (i0 k hk).symm) hik) hA
  refine ⟨(adK 0, adV 0), ⟨fun i hi => ?_, fun i k hi hk _ => (i0 i hi).trans (i0 k hk).symm⟩, h2 0 (by omega)⟩
  have := h1.1 0 (by omega)
  rw [i0 i hi]
  exact this
theorem kn_ok {args : Array Value} {s : State} {ci n : Nat} {C : String} (hC : CL ci C) (hts : ∀ w ∈ lw_tbl, w.before args s = true) (hins : Cond.instantiable C n ∈ lw_tbl) : ∃ x : ClassId × (Nat → Nat), ∀ q, vwCl[ci]? = some q → u_Kn s q.1 q.2.1 q.2.2 x.1 x.2 := by
  obtain ⟨h11, T, ty, hcl, hin, -⟩ := hC
  obtain ⟨cC, iS, h⟩ := u_known (T := T) (N := nf ci) hts (fun w hw => (hin w hw).1) (hts _ hins)
  exact ⟨(cC, iS), fun q hq => by cases hcl.symm.trans hq; exact h⟩
theorem kns_ok {args : Array Value} {s : State} (hts : ∀ w ∈ lw_tbl, w.before args s = true) : ∃ D : va_G, ∀ (c : Nat) (q : vw_C), vwCl[c]? = some q → u_Kn s q.1 q.2.1 q.2.2 (D.1 c) (D.2 c) := by
  have h : ∀ c : Nat, ∃ x : ClassId × (Nat → Nat), ∀ q, vwCl[c]? = some q → u_Kn s q.1 q.2.1 q.2.2 x.1 x.2 := by
    intro c
    match c with
    | 0 => exact kn_ok cl0 hts wd186
    | 1 => exact kn_ok cl1 hts wd34
    | 2 => exact kn_ok cl2 hts wd255
    | 3 => exact kn_ok cl3 hts wd126
    | 4 => exact kn_ok cl4 hts wd145
    | 5 => exact kn_ok cl5 hts wd206
    | 6 => exact kn_ok cl6 hts wd72
    | 7 => exact kn_ok cl7 hts wd78
    | 8 => exact kn_ok cl8 hts wd49
    | 9 => exact kn_ok cl9 hts wd26
    | 10 => exact kn_ok cl10 hts wd1316
    | c + 11 => exact ⟨(0, fun _ => 0), fun q hq => by
        have h9 : vwCl.length = 11 := rfl
        rw [List.getElem?_eq_none (by omega)] at hq
        cases hq⟩
  obtain ⟨f, hf⟩ := Classical.axiomOfChoice h
  exact ⟨(fun c => (f c).1, fun c => (f c).2), hf⟩
theorem arr_ok {args : Array Value} {s : State} {ty : FieldType} (h : (Cond.arrayClass ty).before args s = true) : ∃ cA : ClassId, ArrOfT s cA ty ∧ s.vm.findClass ("[" ++ ty.toString) = some cA := by
  obtain ⟨cA, kA, comp, h1, h2, h3⟩ := Cond.arrayClass_spec h
  exact ⟨cA, fun n z => ⟨(fun k h => by cases h), kA, h2, comp, h3⟩, h1⟩
theorem tys_ok {args : Array Value} {s : State} (hts : ∀ w ∈ lw_tbl, w.before args s = true) : ∃ ca : Nat → ClassId, ∀ (k : Nat) (q : ClassId × FieldType), (tyl ca)[k]? = some q → ArrOfT s q.1 q.2 ∧ va_RA s q.1 q.2 := by
  obtain ⟨c0, a0, b0⟩ := arr_ok (hts _ wd47)
  obtain ⟨c1, a1, b1⟩ := arr_ok (hts _ wd253)
  obtain ⟨c2, a2, b2⟩ := arr_ok (hts _ wd782)
  obtain ⟨c4, a4, b4⟩ := arr_ok (hts _ wd1897)
  obtain ⟨comp, c3, k3, f4, -, f2, f3, f1⟩ := Cond.arrayOver_spec (hts _ wd192)
  refine ⟨fun k => if k = 0 then c0 else if k = 1 then c1 else if k = 2 then c2 else if k = 3 then c3 else c4, fun k q hq => ?_⟩
  match k, hq with
  | 0, hq => cases hq; exact ⟨a0, b0⟩
  | 1, hq => cases hq; exact ⟨a1, b1⟩
  | 2, hq => cases hq; exact ⟨a2, b2⟩
  | 3, hq => cases hq; exact ⟨fun n z => ⟨(fun k h => by cases h), k3, f2, comp, f3⟩, k3, comp, f2, f3, f4, f1⟩
  | 4, hq => cases hq; exact ⟨a4, b4⟩
  | k + 5, hq => cases hq
theorem start_En {p : Program} {s : State} {m : MethodId} {meth : Method} {c : Code} {b L : Nat} {xs : Nat → Int32} (C0 : lw_At p s m meth c b L xs) : ∃ G : Gl, En G s ∧ G.2.2.1 = s.heap.size ∧ G.2.2.2.1 199 = b ∧ G.2.2.2.2.1 = L ∧ ExC s := by
  obtain ⟨hx, hb, hr, hml, hown, hts, hX, hbl, hlocks, hgv⟩ := id C0
  have hs : ∀ c ∈ nrw, c.before #[Value.ref b] s = true := flat_of_before _ hgv
  obtain ⟨D, hD⟩ := kns_ok hts
  obtain ⟨ca, hca⟩ := tys_ok hts
  have hA : ∀ a : Nat, a < s.heap.size → ¬ (fun q : Nat => s.heap.size ≤ q) a := fun a h => Nat.not_le.mpr h
  have hstr : ∀ j : Nat, ∃ q : Nat × Nat, j < NS → (vk_S 1 [lenT.getD j 0] [bytT.getD j []] (fun _ => q.1) (fun _ => q.2) (fun q : Nat => s.heap.size ≤ q) s s.heap ∧ (sTm j).eval #[Value.ref b] s none [] s = some (.ref q.1)) := fun j => by
    by_cases hj : j < NS
    · obtain ⟨q, hq⟩ := str_ok hs hA hj
      exact ⟨q, fun _ => hq⟩
    · exact ⟨(0, 0), fun h => absurd h hj⟩
  obtain ⟨f, hf⟩ := Classical.axiomOfChoice hstr
  refine ⟨(D, ca, s.heap.size, fun k => if k < 199 then s.heap.size + k else if k = 199 then b else if k < 300 then (f (k - 200)).1 else (f (k - 300)).2, L, xs), ?_, rfl, rfl, rfl, va_AO.of (hts _ wd192), fun ty hty => word_at (State.WarmedH.refl s) (Or.inr ⟨ty, rfl⟩) (hts _ hty)⟩
  refine ⟨fun w hw ho => ?_, ⟨hD, hca⟩, ?_, ?_, fun j q hq => ?_, fun j hj => ?_, fun k hk => if_pos hk, Nat.le_refl _, ?_, ?_, fun q hq => va_Nc.of (hs _ (ncT_ok q hq)), hX, hbl⟩
  · simp only [tbOK, Bool.and_eq_true] at ho
    exact va_Nw.of ho.1 (hts w hw)
  · exact vx_Zqof (hts _ wd741) (hts _ wd12) (hs _ (List.mem_of_getElem? (i := 4) (by decide +kernel))) hA
  · exact vx_Zqof (hts _ wd743) (hts _ wd12) (hs _ (List.mem_of_getElem? (i := 5) (by decide +kernel))) hA
  · have hj : j < NS := (List.getElem?_eq_some_iff.mp hq).1
    have e1 : strT.getD j ("", 0, "") = q := by rw [List.getD_eq_getElem?_getD, hq]; rfl
    have h2 := (hf j hj).2
    unfold sTm sOwn sIdx at h2
    rw [e1] at h2
    have e2 : (if 200 + j < 199 then s.heap.size + (200 + j) else if 200 + j = 199 then b else if 200 + j < 300 then (f (200 + j - 200)).1 else (f (200 + j - 300)).2) = (f j).1 := by
      unfold NS at hj
      rw [if_neg (by omega), if_neg (by omega), if_pos (by omega), Nat.add_sub_cancel_left]
    show vk_R q.1 q.2.1 q.2.2 (if 200 + j < 199 then s.heap.size + (200 + j) else if 200 + j = 199 then b else if 200 + j < 300 then (f (200 + j - 200)).1 else (f (200 + j - 300)).2) s
    rw [e2]
    exact vk_R.of (hts _ (sRef_ok q (List.mem_of_getElem? hq))) h2
  · have e2 : (if 200 + j < 199 then s.heap.size + (200 + j) else if 200 + j = 199 then b else if 200 + j < 300 then (f (200 + j - 200)).1 else (f (200 + j - 300)).2) = (f j).1 := by
      unfold NS at hj
      rw [if_neg (by omega), if_neg (by omega), if_pos (by omega), Nat.add_sub_cancel_left]
    have e3 : (if 300 + j < 199 then s.heap.size + (300 + j) else if 300 + j = 199 then b else if 300 + j < 300 then (f (300 + j - 200)).1 else (f (300 + j - 300)).2) = (f j).2 := by
      rw [if_neg (by omega), if_neg (by omega), if_neg (by omega), Nat.add_sub_cancel_left]
    show vk_S 1 [lenT.getD j 0] [bytT.getD j []] (fun _ => if 200 + j < 199 then s.heap.size + (200 + j) else if 200 + j = 199 then b else if 200 + j < 300 then (f (200 + j - 200)).1 else (f (200 + j - 300)).2) (fun _ => if 300 + j < 199 then s.heap.size + (300 + j) else if 300 + j = 199 then b else if 300 + j < 300 then (f (300 + j - 200)).1 else (f (300 + j - 300)).2) (fun q : Nat => s.heap.size ≤ q) s s.heap
    rw [e2, e3]
    exact (hf j hj).1
  · exact va_Zof (hts _ wd825) (hts _ wd16) (va_eqt (hs _ (List.mem_of_getElem? (i := 6) (by decide +kernel)))) hA
  · exact va_Zqof (hts _ wd841) (hts _ wd18) (hs _ (List.mem_of_getElem? (i := 7) (by decide +kernel))) hA
