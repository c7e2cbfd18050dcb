/-! ===== the law's prologue; the start ===== -/
variable {xt : List (Nat × Nat × Nat × Nat)}
def M0 : Mem := fun _ _ => 0
def NT : NM := fun _ _ => true
def NF : NM := iN_X10_init (iN_X9_init NT)
theorem NF_ok : (List.range NO).all (fun k => ((List.range (nf (ot k).1)).all (fun i => decide (¬ (ot k).1 < 11) || decide (¬ 1 < (ft (ot k).1 i).1) || !NF k i)) && (decide (¬ (ot k).1 = 23) || (List.range (ot k).2).all (fun i => !NF k i))) = true := by decide +kernel
theorem arrV_congr {cI : ClassId} {N : Nat} {f g : Nat → Value} (h : ∀ j, j < N → f j = g j) : arrV cI N f = arrV cI N g := by
  unfold arrV
  congr 1
  congr 1
  funext j
  exact h _ j.isLt
theorem Wd_of {G : Gl} {M : Mem} {H : Heap} (hW : WdC G NO NF M H) : Wd G M H := by
  refine ⟨fun k q hq => ?_, hW.2.1⟩
  have hk : k < NO := by
    have := (List.getElem?_eq_some_iff.mp hq).1
    simpa [wrl] using this
  rw [wrl_at _ _ _ hk] at hq
  cases hq
  have h1 := hW.1 k _ (wrc_at _ _ _ _ _ hk)
  have hN := List.all_eq_true.mp NF_ok k (List.mem_range.mpr hk)
  simp only [Bool.and_eq_true, List.all_eq_true, List.mem_range, Bool.or_eq_true, decide_eq_true_eq, Bool.not_eq_true'] at hN
  obtain ⟨n1, n2⟩ := hN
  unfold ceN at h1
  unfold cel
  by_cases h11 : (ot k).1 < 11
  · rw [if_pos h11] at h1 ⊢
    have : fldN G.2.2.1 NF M k (ot k).1 = flds G.2.2.1 M k (ot k).1 := by
      unfold fldN flds
      refine List.map_congr_left (fun i hi => ?_)
      have hi := List.mem_range.mp hi
      unfold fvN fv
      by_cases h3 : (ft (ot k).1 i).1 ≤ 1
      · rw [if_pos h3, if_pos h3]
      · have h4 : NF k i = false := by
          rcases n1 i hi with (h | h) | h
          · exact absurd h11 h
          · exact absurd (by omega) h
          · exact h
        rw [if_neg h3, if_neg h3, h4]
        rfl
    rw [this] at h1
    exact h1
  · rw [if_neg h11] at h1 ⊢
    by_cases h24 : (ot k).1 = 24
    · rw [if_pos h24] at h1 ⊢
      exact h1
    · rw [if_neg h24] at h1 ⊢
      by_cases h23 : (ot k).1 = 23
      · rw [if_pos h23] at h1 ⊢
        have n3 : ∀ i, i < (ot k).2 → NF k i = false := by
          rcases n2 with h | h
          · exact absurd h23 h
          · exact h
        have e : arrV (G.2.1 3) (ot k).2 (fun j => va_rf (if NF k j = true then none else some (G.2.2.1 + rfa k j))) = arrV (G.2.1 3) (ot k).2 (fun j => va_rf (some (G.2.2.1 + rfa k j))) := arrV_congr (fun j hj => by rw [n3 j hj]; rfl)
        have h2 : H[G.2.2.1 + k]? = some (arrV (G.2.1 3) (ot k).2 (fun j => va_rf (if NF k j = true then none else some (G.2.2.1 + rfa k j)))) := h1
        rw [e] at h2
        exact h2
      · rw [if_neg h23] at h1 ⊢
        exact h1
theorem C_toRun {G : Gl} {fl : Bool} {R : Room} {mi : MI} {Z : ZT} {cells slots pc : Nat} {L : List (Option AV)} {st : List AV} {M : Mem} (k : Run G true R mi Z cells slots pc L st M) : RunC G NO NF fl R mi Z cells slots pc L st M := by
  intro p l e s0 s m args below meth c H locs ls vs CC D hl hs hW hS
  have hD := D.1
  subst hD
  exact k p l e s s m args below meth c H locs ls vs CC ⟨s.drawn, Drawn.sameBut.refl _ _, rfl⟩ hl hs (Wd_of hW) hS
theorem C_astore_nW {G : Gl} {n9 : Nat} {N9 : NM} {fl : Bool} {R : Room} {mi : MI} {Z : ZT} {cells slots pc : Nat} {L : List (Option AV)} {st : List AV} {M : Mem} (k : RunC G n9 N9 fl R mi Z cells slots pc L st M) : RunC G n9 N9 fl R mi Z cells slots pc L st M := k
set_option maxRecDepth 20000 in
theorem law_start {G : Gl} (Inv : Mem → Prop) (hL : G.2.2.2.2.1 ≤ 3072) (step : ∀ (v0 v1 v2 v3 v4 v5 : Int) (M : Mem), inR v0 → inR v1 → inR v2 → inR v3 → inR v4 → inR v5 → Inv M → ∃ M', f_law v0 v1 v2 v3 v4 v5 M = some M' ∧ Inv M') {M1 M2 : Mem} (h1 : f_X9_init M0 = some M1) (h2 : f_X10_init M1 = some M2) (hI : Inv M2) : RunC G 0 NT false room_1 (miL_law xt) (ZL G) 0 0 0 [some (aR 199), none, none, none, none, none, none, none, none] [] M0 := by
  refine C_new dL_law_0 clc9 wd25 wd26 wd1 rfl (by decide) ⟨nle, nle⟩ ?_
  refine C_norm (n1 := 1) (c1 := 1) (s1 := 18) rfl rfl rfl ?_
  refine C_dupR dL_law_3 ?_
  refine C_callI (n' := 84) (N' := iN_X9_init NT) (As := []) (st := [aR 0]) dL_law_4 (cc_X9_init _ h1) mwX9_init rfl rfl wd28 (Or.inl wd27) rfl rfl ⟨nle, nle, nle, nle⟩ nle rfl ?_
  refine C_norm (n1 := 84) (c1 := 84) (s1 := 67836) rfl rfl rfl ?_
  refine C_astore_n dL_law_7 rfl (show 1 < 9 by decide) rfl ?_
  refine C_new dL_law_8 clc10 wd1315 wd1316 wd11 rfl (by decide) ⟨nle, nle⟩ ?_
  refine C_norm (n1 := 85) (c1 := 85) (s1 := 67886) rfl rfl rfl ?_
  refine C_dupR dL_law_11 ?_
  refine C_callI (n' := 113) (N' := NF) (As := []) (st := [aR 84]) dL_law_12 (cc_X10_init _ h2) mwX10_init rfl rfl wd1318 (Or.inl wd1317) rfl rfl ⟨nle, nle, nle, nle⟩ nle rfl ?_
  refine C_norm (n1 := 113) (c1 := 113) (s1 := 192436) rfl rfl rfl ?_
  refine C_astore_n dL_law_15 rfl (show 2 < 9 by decide) rfl ?_
  refine C_iconst dL_law_16 (v := 1) rfl ?_
  refine C_newl (len := 1) dL_law_17 wd1897 rfl rfl (by decide) nle ⟨nle, nle⟩ ?_
  refine C_norm (n1 := 114) (c1 := 114) (s1 := 192437) rfl rfl rfl ?_
  refine C_astore_n dL_law_19 rfl (show 3 < 9 by decide) rfl ?_
  refine C_toRun ?_
  refine R_iconst dL_law_20 (v := 0) rfl ?_
  refine R_istore dL_law_21 (show 4 < 9 by decide) rfl rfl ?_
  exact law_loop Inv hL step 513 0 M2 114 192437 (by omega) (by omega) (by omega) hI (by omega) (by omega)
/-- the walk of the law's body, given what every call of the script keeps -/
theorem whole_start_of (Inv : Mem → Prop) (step : ∀ (v0 v1 v2 v3 v4 v5 : Int) (M : Mem), inR v0 → inR v1 → inR v2 → inR v3 → inR v4 → inR v5 → Inv M → ∃ M', f_law v0 v1 v2 v3 v4 v5 M = some M' ∧ Inv M') {M1 M2 : Mem} (h1 : f_X9_init M0 = some M1) (h2 : f_X10_init M1 = some M2) (hI : Inv M2)
    {p : Program} {e : Env} {s : State} {m : MethodId} {below : List Frame} {meth : Method} {c : Code} (l : Launch) (hflags : l.flags = flags0) {b L : Nat} {xs : Nat → Int32} (hL : L ≤ 3072) (C0 : lw_At p s m meth c b L xs) : W p l e room_1 s m #[Value.ref b] below meth c s.heap [] 0 0 (lw_Z below #[Value.ref b] s) (entryFrame m ([Value.ref b] : List Value).toArray 9) := by
  obtain ⟨G, hE, hb0, hb1, hb2, hEx⟩ := start_En C0
  obtain ⟨hx, hb, hr, hml, hown, hts, hX, hbl, hlocks, hgv⟩ := id C0
  rw [lg_entry_eq]
  have hst : l.stackTraces = false := by unfold Launch.stackTraces; rw [hflags]; rfl
  have hWd : WdC G 0 NT M0 s.heap := ⟨(fun k q hq => by simp [wrc] at hq), (fun _ _ => ⟨(show (-2147483648 : Int) ≤ 0 by decide), (show (0 : Int) ≤ 2147483647 by decide)⟩), (fun k _ => ⟨fun _ => rfl, fun _ => rfl⟩), (by decide)⟩
  obtain ⟨xt, hxt⟩ : ∃ xt, XT c xt := ⟨_, rfl⟩
  have K := law_start (G := G) (xt := xt) Inv (by rw [hb2]; exact hL) step h1 h2 hI p l e s s m #[Value.ref b] below meth c s.heap [] _ [] ⟨hx, hb, hml, hr, hlocks, hown, hst, hxt, hE⟩ ⟨rfl, (fun h => by cases h), (by rw [hb0]), hEx⟩ (entry_ok (L := [some (aR 199), none, none, none, none, none, none, none, none]) (As := [aR 199]) (vs := [Value.ref b]) trivial ⟨(show b = G.2.2.2.1 199 from hb1.symm), trivial⟩ (show 1 ≤ 9 by decide) ⟨rfl, trivial⟩) trivial hWd va_S.rf
  intro T hT X
  obtain ⟨t, a1, a2⟩ := K T hT X
  exact ⟨t, a1, a2 hb0.symm⟩
