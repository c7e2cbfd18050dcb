/-! ===== every call keeps what stands; the whole ===== -/
theorem repB_w {T : Tx} {G : Sn} {B : Bx} (hW : Wf T.1) (h : WB B) : WB (repB T G B) := ⟨h.1, h.2.1, h.2.2.1, hW.l0, hW.l1⟩
theorem whole_step (v0 v1 v2 v3 v4 v5 : Int) (M : Mem) (i0 : inR v0) (i1 : inR v1) (i2 : inR v2) (i3 : inR v3) (i4 : inR v4) (i5 : inR v5) (hI : Inv M) : ∃ M', f_law v0 v1 v2 v3 v4 v5 M = some M' ∧ Inv M' := by
  obtain ⟨T, G, B, hW, hG, hB, hC, hM⟩ := hI
  show Ok (f_law v0 v1 v2 v3 v4 v5 M) Inv
  unfold f_law
  refine .ifC (fun _ => (law_0_ok i1 i2 i3 i4 i5 hW hB hC hM).mono (fun M' ⟨B', w, h1, h2⟩ => ⟨T, G, B', hW, hG, w, h1, h2⟩)) (fun _ => ?_)
  refine .ifC (fun _ => (law_1_ok v1 hW hG hB hC hM).mono (fun M' ⟨T', G', B', w, w2, w3, h1, h2⟩ => ⟨T', G', B', w, w2, w3, h1, h2⟩)) (fun _ => ?_)
  refine .ifC (fun _ => (law_2_ok v1 hW hG hB hC hM).mono (fun M' ⟨T', B', w, w2, h1, h2⟩ => ⟨T', G, B', w, hG, w2, h1, h2⟩)) (fun _ => ?_)
  refine .ifC (fun _ => (law_3_ok hW hC hM).mono (fun M' ⟨h1, h2⟩ => ⟨T, G, B, hW, hG, hB, h1, h2⟩)) (fun _ => ?_)
  refine .ifC (fun _ => (law_4_ok v1 hW hG hC hM).mono (fun M' ⟨h1, h2⟩ => ⟨T, G, B, hW, hG, hB, h1, h2⟩)) (fun _ => ?_)
  refine .ifC (fun _ => (law_5_ok v1 v2 hW hG hC hM).mono (fun M' ⟨h1, h2⟩ => ⟨T, G, B, hW, hG, hB, h1, h2⟩)) (fun _ => ?_)
  refine .ifC (fun _ => (law_6_ok v1 v2 i2 hW hG hC hM).mono (fun M' ⟨h1, h2⟩ => ⟨T, G, B, hW, hG, hB, h1, h2⟩)) (fun _ => ?_)
  refine .ifC (fun _ => (law_7_ok v1 v2 i2 hW hG hC hM).mono (fun M' ⟨h1, h2⟩ => ⟨T, G, B, hW, hG, hB, h1, h2⟩)) (fun _ => ?_)
  refine .ifC (fun _ => (law_8_ok v1 v2 hW hG hC hM).mono (fun M' ⟨h1, h2⟩ => ⟨T, G, B, hW, hG, hB, h1, h2⟩)) (fun _ => ?_)
  refine .ifC (fun _ => (law_9_ok v1 i1 hW hG hC hM).mono (fun M' ⟨h1, h2⟩ => ⟨T, G, B, hW, hG, hB, h1, h2⟩)) (fun _ => ?_)
  refine .ifC (fun _ => (law_10_ok v1 v2 hW hG hC hM).mono (fun M' ⟨h1, h2⟩ => ⟨T, G, B, hW, hG, hB, h1, h2⟩)) (fun _ => ?_)
  refine .ifC (fun _ => (law_11_ok hW hG hC hM).mono (fun M' ⟨h1, h2⟩ => ⟨T, G, B, hW, hG, hB, h1, h2⟩)) (fun _ => ?_)
  refine .ifC (fun _ => (law_12_ok hW hG hC hM).mono (fun M' ⟨h1, h2⟩ => ⟨T, G, B, hW, hG, hB, h1, h2⟩)) (fun _ => ?_)
  refine .ifC (fun _ => (law_13_ok hW hG hC hM).mono (fun M' ⟨h1, h2⟩ => ⟨T, G, B, hW, hG, hB, h1, h2⟩)) (fun _ => ?_)
  refine .ifC (fun _ => (law_14_ok hW hG hC hM).mono (fun M' ⟨h1, h2⟩ => ⟨T, G, B, hW, hG, hB, h1, h2⟩)) (fun _ => ?_)
  refine .ifC (fun _ => (law_15_ok hW hG hC hM).mono (fun M' ⟨h1, h2⟩ => ⟨T, G, B, hW, hG, hB, h1, h2⟩)) (fun _ => ?_)
  refine .ifC (fun _ => (law_16_ok v1 v2 hW hG hC hM).mono (fun M' ⟨h1, h2⟩ => ⟨T, G, B, hW, hG, hB, h1, h2⟩)) (fun _ => ?_)
  refine .ifC (fun _ => (law_17_ok v1 hW hG hC hM).mono (fun M' ⟨h1, h2⟩ => ⟨T, G, B, hW, hG, hB, h1, h2⟩)) (fun _ => ?_)
  refine .ifC (fun _ => (law_18_ok hW hG hC hM).mono (fun M' ⟨h1, h2⟩ => ⟨T, G, B, hW, hG, hB, h1, h2⟩)) (fun _ => ?_)
  refine .ifC (fun _ => (law_19_ok v1 hW hC hM).mono (fun M' ⟨h1, h2⟩ => ⟨T, G, B, hW, hG, hB, h1, h2⟩)) (fun _ => ?_)
  refine .ifC (fun _ => (law_20_ok hW hG hC hM).mono (fun M' ⟨h1, h2⟩ => ⟨T, G, repB T G B, hW, hG, repB_w hW.1 hB, h1, h2⟩)) (fun _ => ?_)
  refine .ifC (fun _ => (law_21_ok v1 hW hB hC hM).mono (fun M' ⟨h1, h2⟩ => ⟨T, G, B, hW, hG, hB, h1, h2⟩)) (fun _ => ?_)
  refine .ifC (fun _ => (law_22_ok v1 v2 hW hB hC hM).mono (fun M' ⟨T', B', w, w2, h1, h2⟩ => ⟨T', G, B', w, hG, w2, h1, h2⟩)) (fun _ => ?_)
  refine .ifC (fun _ => (law_23_ok v1 v2 hW hC hM).mono (fun M' ⟨T', w, h1, h2⟩ => ⟨T', G, B, w, hG, hB, h1, h2⟩)) (fun _ => ?_)
  refine .ifC (fun _ => (law_24_ok v1 v2 v3 hW hG hC hM).mono (fun M' ⟨T', w, h1, h2⟩ => ⟨T', G, B, w, hG, hB, h1, h2⟩)) (fun _ => ?_)
  refine .ifC (fun _ => (law_25_ok v1 hW hG hC hM).mono (fun M' ⟨T', w, h1, h2⟩ => ⟨T', G, B, w, hG, hB, h1, h2⟩)) (fun _ => ?_)
  refine .ifC (fun _ => (law_26_ok hW hG hC hM).mono (fun M' ⟨T', w, h1, h2⟩ => ⟨T', G, B, w, hG, hB, h1, h2⟩)) (fun _ => ?_)
  refine .ifC (fun _ => (law_27_ok v1 hW hC hM).mono (fun M' ⟨T', w, h1, h2⟩ => ⟨T', G, B, w, hG, hB, h1, h2⟩)) (fun _ => ?_)
  refine .ifC (fun _ => (law_28_ok v1 hW hC hM).mono (fun M' ⟨T', w, h1, h2⟩ => ⟨T', G, B, w, hG, hB, h1, h2⟩)) (fun _ => ?_)
  refine .ifC (fun _ => (law_29_ok v1 hW hC hM).mono (fun M' ⟨T', w, h1, h2⟩ => ⟨T', G, B, w, hG, hB, h1, h2⟩)) (fun _ => ?_)
  refine .ifC (fun _ => (law_30_ok v1 v2 v3 hW hG hC hM).mono (fun M' ⟨T', w, h1, h2⟩ => ⟨T', G, B, w, hG, hB, h1, h2⟩)) (fun _ => ?_)
  refine .ifC (fun _ => (law_31_ok v1 hW hG hB hC hM).mono (fun M' ⟨T', G', B', w, w2, w3, h1, h2⟩ => ⟨T', G', B', w, w2, w3, h1, h2⟩)) (fun _ => ?_)
  refine .ifC (fun _ => (law_32_ok hW hC hM).mono (fun M' ⟨T', w, h1, h2⟩ => ⟨T', G, B, w, hG, hB, h1, h2⟩)) (fun _ => ?_)
  refine .ifC (fun _ => (law_33_ok v1 hW hC hM).mono (fun M' ⟨T', w, h1, h2⟩ => ⟨T', G, B, w, hG, hB, h1, h2⟩)) (fun _ => ?_)
  refine .ifC (fun _ => (law_34_ok v1 hW hC hM).mono (fun M' ⟨T', w, h1, h2⟩ => ⟨T', G, B, w, hG, hB, h1, h2⟩)) (fun _ => ?_)
  exact .ret ⟨T, G, B, hW, hG, hB, hC, hM⟩
theorem whole_start {p : Program} {e : Env} {s : State} {m : MethodId} {below : List Frame} {meth : Method} {c : Code} (l : Launch) (hflags : l.flags = flags0) {b L : Nat} {xs : Nat → Int32} (hL : L ≤ 3072) (C0 : lw_At p s m meth c b L xs) : W p l e room_1 s m #[Value.ref b] below meth c s.heap [] 0 0 (lw_Z below #[Value.ref b] s) (entryFrame m ([Value.ref b] : List Value).toArray 9) := by
  obtain ⟨M1, M2, h1, h2, hI⟩ := init_ok (M0 := M0) (fun _ _ => rfl)
  exact whole_start_of Inv whole_step h1 h2 hI l hflags hL C0
