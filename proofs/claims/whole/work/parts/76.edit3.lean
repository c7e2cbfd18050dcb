/-! ===== undo, snapshots, insert, load, append ===== -/
theorem CCa.due {ρ : Int → Int} {P : Pg} {M : Mem} (h1 : M 0 16 = 1) (h2 : M 0 17 = 1) : CCa ρ P M := ⟨fun x => by omega, fun x => by omega⟩
theorem law_32_ok {T : Tx} {G : Sn} {B : Bx} {M : Mem} (hW : WT T) (hC : CI T G B M) (hM : MoI T G B M) : Ok (f_law_32 M) (fun M' => ∃ T', WT T' ∧ CI T' G B M' ∧ MoI T' G B M') := by
  obtain ⟨n0, n10, hHs⟩ := id hW.2.1
  unfold f_law_32
  by_cases hn : T.2.1 = 0
  · refine (lawV (-1) hM hW ?_ (fun M1 h1 => ?_)).mono (fun M' h => ⟨T, hW, h⟩)
    · unfold f_X9_undo
      exact .ifT (by rw [hC.2.1.1]; exact hn) (.ret ⟨rfl, hC, FrC.rf⟩)
    · unfold f_X10_undo
      refine .put fun M2 e2 => ?_
      obtain ⟨a1, a2, a3⟩ := h1.put0 e2
      exact .ifT (by rw [a1.2.1.1]; exact hn) (.ret ⟨rfl, a1, a2⟩)
  · have hW' : WT (T.2.2.1 (T.2.1 - 1), T.2.1 - 1, T.2.2) := ⟨hHs _ (by omega) (by omega), ⟨by show 0 ≤ T.2.1 - 1; omega, by show T.2.1 - 1 ≤ 10; omega, fun k k0 k1 => hHs k k0 (by have k1 : k < T.2.1 - 1 := k1; omega)⟩, hW.2.2⟩
    refine (lawV (T' := (T.2.2.1 (T.2.1 - 1), T.2.1 - 1, T.2.2)) (T.2.1 - 1) hM hW' ?_ (fun M1 h1 => ?_)).mono (fun M' h => ⟨_, hW', h⟩)
    · unfold f_X9_undo
      refine .ifF (by rw [hC.2.1.1]; exact hn) (.bind (takeBack_ok M hC.2.1 hW.2.1 hn) (fun M1 ⟨a1, a2, a3⟩ => .bind (touch_ok M1) (fun M2 ⟨b1, b2, b3⟩ => .ret ?_)))
      obtain ⟨h1, h2, h3, h4, h5, h6, h7, h8⟩ := hC
      have o : ∀ c i, c ≠ 14 → c ≠ 15 → c ≠ 16 → c ≠ 20 → ¬ (c = 0 ∧ (i = 16 ∨ i = 17)) → M2 c i = M c i := fun c i c1 c2 c3 c4 c5 => (b3 c i c5).trans (a3 c c1 c2 c3 c4 i)
      have hH : HistC M2 (T.2.1 - 1) T.2.2.1 := a2.same (by omega) (fun c i hc => b3 c i (by omega))
      refine ⟨hH.1, ⟨a1.same (fun i => b3 _ i (by omega)) (fun i => b3 _ i (by omega)) (fun i => b3 _ i (by omega)), hH, h3.same (fun c i hc => o c i (by omega) (by omega) (by omega) (by omega) (by omega)), h4.same (fun c i hc => o c i (by omega) (by omega) (by omega) (by omega) (by omega)), h5.same (fun c i hc => o c i (by omega) (by omega) (by omega) (by omega) (by omega)), (o 0 15 (by omega) (by omega) (by omega) (by omega) (by omega)).trans h6, h7.same (fun c i hc => o c i (by omega) (by omega) (by omega) (by omega) (by omega)), CCa.due b1 b2⟩, fun c i hc => o c i (by omega) (by omega) (by omega) (by omega) (by omega)⟩
    · unfold f_X10_undo
      refine .put fun M2 e2 => ?_
      obtain ⟨a1, a2, a3⟩ := h1.put0 e2
      have m46 : M2 84 46 = T.2.1 := a1.2.1.1
      refine .ifF (by omega) ?_
      rw [m46, w32_of (by omega) (by omega)]
      refine .put fun M3 e3 => ?_
      have k46 : M3 84 46 = T.2.1 - 1 := by rw [e3, if_pos ⟨rfl, rfl⟩]
      rw [k46, w32_of (i := 254 * (T.2.1 - 1)) (by omega) (by omega)]
      have al : alen 110 = 2540 := rfl
      have al2 : alen 90 = 254 := rfl
      refine .bind (copies_ok 110 90 (254 * (T.2.1 - 1)) 0 (by omega) (by omega) (by rw [al]; omega) (by rw [al2]; omega) (by omega) (by omega) (Or.inl (by decide)) M3) (fun M4 e4 => .ret ?_)
      obtain ⟨h1, h2, h3, h4, h5, h6, h7⟩ := a1
      have o : ∀ c i, c ≠ 90 → ¬ (c = 84 ∧ i = 46) → M4 c i = M2 c i := fun c i c1 c2 => by rw [e4, if_neg (by omega), e3, if_neg c2]
      have q46 : M4 84 46 = T.2.1 - 1 := by rw [e4, if_neg (by omega)]; exact k46
      refine ⟨q46, ⟨?_, ⟨q46, fun k k0 k1 => (h2.2 k k0 (by have k1 : k < T.2.1 - 1 := k1; omega)).same (fun i => o 110 i (by omega) (by omega))⟩, h3.same (fun c i hc => o c i (by omega) (by omega)), h4.same (fun c i hc => o c i (by omega) (by omega)), h5.same (fun c i hc => o c i (by omega) (by omega)), (o 84 23 (by omega) (by omega)).trans h6, h7.same (fun c i hc => o c i (by omega) (by omega))⟩, a2.trans (fun c i hc => o c i (by omega) (by omega))⟩
      refine (h2.2 (T.2.1 - 1) (by omega) (by omega)).copied (hHs _ (by omega) (by omega)) (fun i i0 i1 => ?_)
      show M4 90 i = _
      rw [e4, if_pos (by omega), e3, if_neg (by omega)]
theorem askSlot_y {v : Int} (M : Mem) (h : 0 ≤ v ∧ v < 2) : f_X9_askSlot v M = some (0, 0, M) := by
  unfold f_X9_askSlot
  rw [if_neg (by omega), if_pos (by omega)]
theorem askSlot_n {v : Int} (M : Mem) (h : ¬ (0 ≤ v ∧ v < 2)) : f_X9_askSlot v M = some (1, 0, M) := by
  unfold f_X9_askSlot
  by_cases x : v < 0
  · rw [if_pos x]
  · rw [if_neg x, if_neg (by omega)]
theorem m_noSlot {T : Tx} {G : Sn} {B : Bx} {M : Mem} (h : MoI T G B M) (v : Int) : Ok (f_X10_noSlot v M) (fun p => p.1 = (if 0 ≤ v ∧ v < 2 then 0 else 1) ∧ p.2 84 0 = (if 0 ≤ v ∧ v < 2 then 0 else 1) ∧ MoI T G B p.2 ∧ FrM M p.2) := by
  unfold f_X10_noSlot
  refine .put fun M2 e2 => ?_
  obtain ⟨a1, a2, a3⟩ := h.put0 e2
  by_cases hv : 0 ≤ v ∧ v < 2
  · rw [if_pos hv]
    refine .bind (.val (isIn_y M2 (by omega))) (fun z hz => .ifF (by omega) (.bind (.val (throws_no 1 a3)) (fun p hp => ?_)))
    subst hp
    exact .ifT (Or.inl rfl) (.ret ⟨rfl, a3, a1, a2⟩)
  · rw [if_neg hv]
    refine .bind (.val (isIn_n M2 (by omega))) (fun z hz => .ifT hz (.bind (throws_yes 1 (by decide) a3) (fun p ⟨p1, p2⟩ => .ifT (Or.inr p1) (.ret ?_))))
    obtain ⟨c1, c2, c3⟩ := a1.put0 p2
    exact ⟨p1, c3, c1, a2.trans c2⟩
def savT (T : Tx) (s : Nat) : Tx := (T.1, T.2.1, T.2.2.1, (fun k => if k = s then 1 else T.2.2.2.1 k), fun k => if k = s then T.1 else T.2.2.2.2 k)
theorem savT_w {T : Tx} (h : WT T) (s : Nat) : WT (savT T s) := by
  refine ⟨h.1, h.2.1, fun k hk => ?_⟩
  show ((if k = s then (1 : Int) else T.2.2.2.1 k) = 0 ∨ (if k = s then (1 : Int) else T.2.2.2.1 k) = 1) ∧ ((if k = s then (1 : Int) else T.2.2.2.1 k) = 1 → Wf (if k = s then T.1 else T.2.2.2.2 k))
  by_cases e : k = s
  · rw [if_pos e, if_pos e]; exact ⟨Or.inr rfl, fun _ => h.1⟩
  · rw [if_neg e, if_neg e]; exact h.2.2 k hk
theorem law_33_ok {T : Tx} {G : Sn} {B : Bx} {M : Mem} (v1 : Int) (hW : WT T) (hC : CI T G B M) (hM : MoI T G B M) : Ok (f_law_33 v1 M) (fun M' => ∃ T', WT T' ∧ CI T' G B M' ∧ MoI T' G B M') := by
  unfold f_law_33 f_L_saveSnapshot
  by_cases hv : 0 ≤ v1 ∧ v1 < 2
  · obtain ⟨s, rfl, hs⟩ : ∃ s : Nat, v1 = s ∧ s < 2 := ⟨v1.toNat, by omega⟩
    have hW' := savT_w hW s
    have fl01 := (hW.2.2 s hs).1
    have f53 := (hC.2.2.1 s hs).1
    refine .bind (Q := fun p => p.1 = 0 ∧ p.2 113 0 = T.2.2.2.1 s ∧ CI (savT T s) G B p.2 ∧ MoI T G B p.2) (.bind (Q := fun r => r.1 = 0 ∧ r.2.1 = T.2.2.2.1 s ∧ CI (savT T s) G B r.2.2 ∧ FrC M r.2.2) ?_ (fun r ⟨r1, r2, r3, r4⟩ => ?_)) (fun p ⟨p1, p2, p3, p4⟩ => ?_)
    · unfold f_X9_saveSnapshot
      refine .bind (.val (askSlot_y M hv)) (fun z hz => ?_)
      subst hz
      refine .ifT rfl (.ifT hv (.let fun q eq => ?_))
      have eq2 : q = 78 + 3 * s := by rw [eq]; show 78 + 3 * ((s : Int)).toNat = _; rw [Int.toNat_natCast]
      refine .bind (copyFrom_ok (o := q) (o1 := 14) (by omega) (by omega) (by omega) (by omega) M hC.1 hW.1) (fun M1 ⟨a1, a2⟩ => .let fun x ex => .put fun M2 e2 => ?_)
      have hx : x = T.2.2.2.1 s := by rw [ex, a2 53 (by omega) (by omega) (by omega)]; exact f53
      have o : ∀ c i, c ≠ q → c ≠ q + 1 → c ≠ q + 2 → ¬ (c = 53 ∧ i = (s : Int)) → M2 c i = M c i := fun c i c1 c2 c3 c4 => by rw [e2, if_neg c4]; exact a2 c c1 c2 c3 i
      refine .ifT (by rw [hx]; exact fl01) (.ret ⟨rfl, hx, ?_, fun c i hc => o c i (by omega) (by omega) (by omega) (by omega)⟩)
      obtain ⟨h1, h2, h3, h4, h5, h6, h7, h8⟩ := hC
      refine ⟨h1.same (fun i => o _ i (by omega) (by omega) (by omega) (by omega)) (fun i => o _ i (by omega) (by omega) (by omega) (by omega)) (fun i => o _ i (by omega) (by omega) (by omega) (by omega)), h2.same hW.2.1.2.1 (fun c i hc => o c i (by omega) (by omega) (by omega) (by omega)), fun k hk => ?_, h4.same (fun c i hc => o c i (by omega) (by omega) (by omega) (by omega)), h5.same (fun c i hc => o c i (by omega) (by omega) (by omega) (by omega)), (o 0 15 (by omega) (by omega) (by omega) (by omega)).trans h6, h7.same (fun c i hc => o c i (by omega) (by omega) (by omega) (by omega)), fun x => ?_, fun x => ?_⟩
      · show M2 53 k = (if k = s then (1 : Int) else T.2.2.2.1 k) ∧ ((if k = s then (1 : Int) else T.2.2.2.1 k) = 1 → PgC M2 (78 + 3 * k) (if k = s then T.1 else T.2.2.2.2 k))
        by_cases e : k = s
        · subst e
          rw [if_pos rfl, if_pos rfl]
          refine ⟨by rw [e2, if_pos ⟨rfl, rfl⟩], fun _ => ?_⟩
          rw [← eq2]
          exact a1.same (fun i => by rw [e2, if_neg (by omega)]) (fun i => by rw [e2, if_neg (by omega)]) (fun i => by rw [e2, if_neg (by omega)])
        · rw [if_neg e, if_neg e]
          have := h3 k hk
          refine ⟨(o 53 k (by omega) (by omega) (by omega) (by omega)).trans this.1, fun hf => (this.2 hf).same (fun i => o _ i (by omega) (by omega) (by omega) (by omega)) (fun i => o _ i (by omega) (by omega) (by omega) (by omega)) (fun i => o _ i (by omega) (by omega) (by omega) (by omega))⟩
      · exact (h8.1 (by rw [← o 0 16 (by omega) (by omega) (by omega) (by omega)]; exact x)).same (fun c i _ _ => o c i (by omega) (by omega) (by omega) (by omega))
      · exact (h8.2 (by rw [← o 0 17 (by omega) (by omega) (by omega) (by omega)]; exact x)).same (fun c i _ => o c i (by omega) (by omega) (by omega) (by omega))
    · have mm : MoI T G B r.2.2 := hM.same (fun c i hc _ => r4 c i hc)
      refine .ifT r1 (.ifC (fun h0 => .ret ⟨rfl, ?_, CI.same hW' r3 (fun c i hc => if_neg (by omega)), mm.same (fun c i hc hc2 => if_neg (by omega))⟩) (fun h0 => .ret ⟨rfl, ?_, CI.same hW' r3 (fun c i hc => if_neg (by omega)), mm.same (fun c i hc hc2 => if_neg (by omega))⟩))
      · show (if (113 : Nat) = 113 ∧ (0 : Int) = 0 then (0 : Int) else r.2.2 113 0) = _
        rw [if_pos ⟨rfl, rfl⟩]; omega
      · show (if (113 : Nat) = 113 ∧ (0 : Int) = 0 then (1 : Int) else r.2.2 113 0) = _
        rw [if_pos ⟨rfl, rfl⟩]; omega
    · refine .bind (Q := fun q => q.1 = T.2.2.2.1 s ∧ q.2 84 0 = 0 ∧ MoI (savT T s) G B q.2 ∧ FrM p.2 q.2) ?_ (fun q ⟨q1, q2, q3, q4⟩ => .bind (.val (v := q.2 84 0) rfl) (fun t ht => ?_))
      · unfold f_X10_saveSnapshot
        refine .bind (m_noSlot p4 s) (fun z ⟨z1, z2, z3, z4⟩ => ?_)
        rw [if_pos hv] at z1 z2
        refine .ifT z1 (.ifT hv (.let fun x ex => ?_))
        have hx : x = T.2.2.2.1 s := ex.trans (z3.2.2.1 s hs).1
        rw [w32_of (i := 254 * (s : Int)) (by omega) (by omega)]
        have al : alen 111 = 508 := rfl
        have al2 : alen 90 = 254 := rfl
        refine .bind (copies_ok 90 111 0 (254 * (s : Int)) (by omega) (by omega) (by rw [al2]; omega) (by rw [al]; omega) (by omega) (by omega) (Or.inl (by decide)) z.2) (fun M4 e4 => .put fun M5 e5 => .ifT (by rw [hx]; exact fl01) (.ret ?_))
        obtain ⟨h1, h2, h3, h4, h5, h6, h7⟩ := z3
        have o : ∀ c i, ¬ (c = 111 ∧ 254 * (s : Int) ≤ i ∧ i < 254 * (s : Int) + 254) → ¬ (c = 112 ∧ i = (s : Int)) → M5 c i = z.2 c i := fun c i c1 c2 => by rw [e5, if_neg c2, e4, if_neg c1]
        refine ⟨hx, (o 84 0 (by omega) (by omega)).trans z2, ⟨h1.same (fun i => o 90 i (by omega) (by omega)), h2.same (fun c i hc => o c i (by omega) (by omega)), fun k hk => ?_, h4.same (fun c i hc => o c i (by omega) (by omega)), h5.same (fun c i hc => o c i (by omega) (by omega)), (o 84 23 (by omega) (by omega)).trans h6, h7.same (fun c i hc => o c i (by omega) (by omega))⟩, z4.trans (fun c i hc => o c i (by omega) (by omega))⟩
        show M5 112 k = (if k = s then (1 : Int) else T.2.2.2.1 k) ∧ ((if k = s then (1 : Int) else T.2.2.2.1 k) = 1 → PgM M5 111 (254 * (k : Int)) (if k = s then T.1 else T.2.2.2.2 k))
        by_cases e : k = s
        · subst e
          rw [if_pos rfl, if_pos rfl]
          refine ⟨by rw [e5, if_pos ⟨rfl, rfl⟩], fun _ => h1.copied hW.1 (fun i i0 i1 => ?_)⟩
          rw [e5, if_neg (by omega), e4, if_pos (by omega)]
        · rw [if_neg e, if_neg e]
          have := h3 k hk
          refine ⟨(o 112 k (by omega) (by omega)).trans this.1, fun hf => (this.2 hf).copied ((hW.2.2 k hk).2 hf) (fun i i0 i1 => ?_)⟩
          rw [o 111 i (by omega) (by omega), show 254 * (k : Int) + (i - 254 * (k : Int)) = i by omega]
      · have fin : ∃ T', WT T' ∧ CI T' G B q.2 ∧ MoI T' G B q.2 := ⟨_, hW', CI.same hW' p3 (fun c i hc => q4 c i (Or.inl hc)), q3⟩
        have e113 : q.2 113 0 = T.2.2.2.1 s := (q4 113 0 (Or.inr (Nat.le_refl _))).trans p2
        refine .ifT (by omega) (.ifT p1 (.ifC (fun h0 => .ifT (by omega) (.ret fin)) (fun h0 => .ifT (by omega) (.ret fin))))
  · refine .bind (Q := fun p => p.1 = 1 ∧ CI T G B p.2 ∧ MoI T G B p.2) (.bind (Q := fun r => r.1 = 1 ∧ CI T G B r.2.2 ∧ FrC M r.2.2) ?_ (fun r ⟨r1, r3, r4⟩ => .ifF (by omega) (.ifT r1 (.ret ⟨rfl, r3, hM.same (fun c i hc _ => r4 c i hc)⟩)))) (fun p ⟨p1, p3, p4⟩ => ?_)
    · unfold f_X9_saveSnapshot
      refine .bind (.val (askSlot_n M hv)) (fun z hz => ?_)
      subst hz
      exact .ifF (by show ¬ (1 : Nat) = 0; decide) (.ret ⟨rfl, hC, FrC.rf⟩)
    · refine .bind (Q := fun q => q.2 84 0 = 1 ∧ MoI T G B q.2 ∧ FrM p.2 q.2) ?_ (fun q ⟨q2, q3, q4⟩ => .bind (.val (v := q.2 84 0) rfl) (fun t ht => .ifT (by omega) (.ifF (by omega) (.ret ⟨T, hW, CI.same hW p3 (fun c i hc => q4 c i (Or.inl hc)), q3⟩))))
      unfold f_X10_saveSnapshot
      refine .bind (m_noSlot p4 v1) (fun z ⟨z1, z2, z3, z4⟩ => ?_)
      rw [if_neg hv] at z1 z2
      exact .ifF (by omega) (.ret ⟨z2, z3, z4⟩)
theorem law_34_ok {T : Tx} {G : Sn} {B : Bx} {M : Mem} (v1 : Int) (hW : WT T) (hC : CI T G B M) (hM : MoI T G B M) : Ok (f_law_34 v1 M) (fun M' => ∃ T', WT T' ∧ CI T' G B M' ∧ MoI T' G B M') := by
  unfold f_law_34 f_L_restoreSnapshot
  by_cases hv : 0 ≤ v1 ∧ v1 < 2
  · obtain ⟨s, rfl, hs⟩ : ∃ s : Nat, v1 = s ∧ s < 2 := ⟨v1.toNat, by omega⟩
    have fl01 := (hW.2.2 s hs).1
    have f53 := (hC.2.2.1 s hs).1
    by_cases hf : T.2.2.2.1 s = 0
    · refine (lawW 4 2 0 hM ?_ hW (fun _ _ => rfl) (by decide) (fun M1 h1 => ?_)).mono (fun M' h => ⟨T, hW, h⟩)
      · unfold f_X9_restoreSnapshot
        refine .bind (.val (askSlot_y M hv)) (fun z hz => ?_)
        subst hz
        exact .ifT rfl (.ifT hv (.let fun q _ => .ifT (f53.trans hf) (.ret ⟨rfl, fun h => absurd h (by decide), hC, FrC.rf⟩)))
      · unfold f_X10_restoreSnapshot
        refine .bind (m_noSlot h1 s) (fun z ⟨z1, z2, z3, z4⟩ => ?_)
        rw [if_pos hv] at z1 z2
        refine .ifT z1 (.ifT hv (.ifT ((z3.2.2.1 s hs).1.trans hf) (.bind (throws_yes 2 (by decide) z2) (fun p ⟨p1, p2⟩ => .ifF (by omega) (.ret ?_)))))
        obtain ⟨c1, c2, c3⟩ := z3.put0 p2
        exact ⟨c3, fun h => absurd h (by decide), c1, z4.trans c2⟩
    · have hf1 : T.2.2.2.1 s = 1 := by omega
      have wS := (hW.2.2 s hs).2 hf1
      have hW' : WT (T.2.2.2.2 s, 0, T.2.2) := ⟨wS, ⟨Int.le_refl 0, by show (0 : Int) ≤ 10; omega, fun k k0 k1 => by have k1 : k < 0 := k1; omega⟩, hW.2.2⟩
      refine (lawW (T' := (T.2.2.2.2 s, 0, T.2.2)) 0 0 (T.2.2.2.2 s).len hM ?_ hW' (fun _ _ => rfl) (by decide) (fun M1 h1 => ?_)).mono (fun M' h => ⟨_, hW', h⟩)
      · unfold f_X9_restoreSnapshot
        refine .bind (.val (askSlot_y M hv)) (fun z hz => ?_)
        subst hz
        refine .ifT rfl (.ifT hv (.let fun q eq => .ifF (by show ¬ M 53 s = 0; omega) ?_))
        have eq2 : q = 78 + 3 * s := by rw [eq]; show 78 + 3 * ((s : Int)).toNat = _; rw [Int.toNat_natCast]
        have hP := (hC.2.2.1 s hs).2 hf1
        rw [← eq2] at hP
        refine .bind (copyFrom_ok (o := 14) (o1 := q) (by omega) (by omega) (by omega) (by omega) M hP wS) (fun M1 ⟨a1, a2⟩ => .put fun M2 e2 => .bind (touch_ok M2) (fun M3 ⟨b1, b2, b3⟩ => .ret ?_))
        have o : ∀ c i, c ≠ 14 → c ≠ 15 → c ≠ 16 → ¬ (c = 20 ∧ i = 2) → ¬ (c = 0 ∧ (i = 16 ∨ i = 17)) → M3 c i = M c i := fun c i c1 c2 c3 c4 c5 => by rw [b3 c i c5, e2, if_neg c4]; exact a2 c c1 c2 c3 i
        have hP3 : PgC M3 14 (T.2.2.2.2 s) := a1.same (fun i => by rw [b3 _ i (by omega), e2, if_neg (by omega)]) (fun i => by rw [b3 _ i (by omega), e2, if_neg (by omega)]) (fun i => by rw [b3 _ i (by omega), e2, if_neg (by omega)])
        obtain ⟨h1, h2, h3, h4, h5, h6, h7, h8⟩ := hC
        have hH3 : HistC M3 0 T.2.2.1 := ⟨by rw [b3 20 2 (by omega), e2, if_pos ⟨rfl, rfl⟩], by rw [o 20 1 (by omega) (by omega) (by omega) (by omega) (by omega)]; exact h2.2.1, by rw [o 20 1 (by omega) (by omega) (by omega) (by omega) (by omega)]; exact h2.2.2.1, fun k k0 k1 => by omega⟩
        refine ⟨rfl, fun _ => hP3.1, ⟨hP3, hH3, h3.same (fun c i hc => o c i (by omega) (by omega) (by omega) (by omega) (by omega)), h4.same (fun c i hc => o c i (by omega) (by omega) (by omega) (by omega) (by omega)), h5.same (fun c i hc => o c i (by omega) (by omega) (by omega) (by omega) (by omega)), (o 0 15 (by omega) (by omega) (by omega) (by omega) (by omega)).trans h6, h7.same (fun c i hc => o c i (by omega) (by omega) (by omega) (by omega) (by omega)), CCa.due b1 b2⟩, fun c i hc => o c i (by omega) (by omega) (by omega) (by omega) (by omega)⟩
      · unfold f_X10_restoreSnapshot
        refine .bind (m_noSlot h1 s) (fun z ⟨z1, z2, z3, z4⟩ => ?_)
        rw [if_pos hv] at z1 z2
        refine .ifT z1 (.ifT hv (.ifF (by rw [(z3.2.2.1 s hs).1]; omega) (.bind (.val (throws_no 2 z2)) (fun p hp => ?_))))
        subst hp
        rw [w32_of (i := 254 * (s : Int)) (by omega) (by omega)]
        have al : alen 111 = 508 := rfl
        have al2 : alen 90 = 254 := rfl
        refine .ifT rfl (.bind (copies_ok 111 90 (254 * (s : Int)) 0 (by omega) (by omega) (by rw [al]; omega) (by rw [al2]; omega) (by omega) (by omega) (Or.inl (by decide)) z.2) (fun M4 e4 => .put fun M5 e5 => .ret ?_))
        obtain ⟨h1, h2, h3, h4, h5, h6, h7⟩ := z3
        have o : ∀ c i, c ≠ 90 → ¬ (c = 84 ∧ i = 46) → M5 c i = z.2 c i := fun c i c1 c2 => by rw [e5, if_neg c2, e4, if_neg (by omega)]
        have hP5 : PgM M5 90 0 (T.2.2.2.2 s) := ((h3 s hs).2 hf1).copied wS (fun i i0 i1 => by rw [e5, if_neg (by omega), e4, if_pos (by omega)])
        have hH5 : HistM M5 0 T.2.2.1 := ⟨by rw [e5, if_pos ⟨rfl, rfl⟩], fun k k0 k1 => by omega⟩
        exact ⟨(o 84 0 (by omega) (by omega)).trans z2, fun _ => hP5.1, ⟨hP5, hH5, h3.same (fun c i hc => o c i (by omega) (by omega)), h4.same (fun c i hc => o c i (by omega) (by omega)), h5.same (fun c i hc => o c i (by omega) (by omega)), (o 84 23 (by omega) (by omega)).trans h6, h7.same (fun c i hc => o c i (by omega) (by omega))⟩, z4.trans (fun c i hc => o c i (by omega) (by omega))⟩
  · refine (lawW 1 1 0 hM ?_ hW (fun _ _ => rfl) (by decide) (fun M1 h1 => ?_)).mono (fun M' h => ⟨T, hW, h⟩)
    · unfold f_X9_restoreSnapshot
      refine .bind (.val (askSlot_n M hv)) (fun z hz => ?_)
      subst hz
      exact .ifF (by show ¬ (1 : Nat) = 0; decide) (.ret ⟨rfl, fun h => absurd h (by decide), hC, FrC.rf⟩)
    · unfold f_X10_restoreSnapshot
      refine .bind (m_noSlot h1 v1) (fun z ⟨z1, z2, z3, z4⟩ => ?_)
      rw [if_neg hv] at z1 z2
      exact .ifF (by omega) (.ret ⟨z2, fun h => absurd h (by decide), z3, z4⟩)
theorem law_0_ok {T : Tx} {G : Sn} {B : Bx} {M : Mem} {v1 v2 v3 v4 v5 : Int} (i1 : inR v1) (i2 : inR v2) (i3 : inR v3) (i4 : inR v4) (i5 : inR v5) (hW : WT T) (hB : WB B) (hC : CI T G B M) (hM : MoI T G B M) : Ok (f_law_0 v1 v2 v3 v4 v5 M) (fun M' => ∃ B', WB B' ∧ CI T G B' M' ∧ MoI T G B' M') := by
  obtain ⟨b1, b2, b3, b4, b5⟩ := hB
  have cl : M 1 1 = B.1 := hC.2.2.2.2.1.1
  have ml : M 84 16 = B.1 := hM.2.2.2.2.1.1
  refine (append_ok i1 i2 i3 i4 i5 (M := M) ⟨by omega, by omega, by omega, fun j j0 j1 => ?_⟩ (fun j j0 j1 => ?_)).mono (fun M' ⟨⟨⟨a1, a2, a3, a4⟩, a5⟩, fr⟩ => ⟨(M' 1 1, M' 2, B.2.2), ⟨a2, a3, fun j j0 j1 => ?_, b4, b5⟩, ?_, ?_⟩)
  · rw [hC.2.2.2.2.1.2 j j0 (by omega), (hM.2.2.2.2.1.2 j j0 (by omega)).1]
  · exact (hM.2.2.2.2.1.2 j j0 (by omega)).2
  · have := a4 j j0 j1
    show 0 ≤ M' 2 j ∧ M' 2 j < 256
    rw [this]
    omega
  · obtain ⟨h1, h2, h3, h4, h5, h6, h7, h8⟩ := hC
    have o : ∀ c i, c < 84 → c ≠ 1 → c ≠ 2 → M' c i = M c i := fun c i c0 c1 c2 => fr c i (by omega) (by omega) (by omega) (by omega)
    refine ⟨h1.same (fun i => o _ i (by omega) (by omega) (by omega)) (fun i => o _ i (by omega) (by omega) (by omega)) (fun i => o _ i (by omega) (by omega) (by omega)), h2.same hW.2.1.2.1 (fun c i hc => o c i (by omega) (by omega) (by omega)), h3.same (fun c i hc => o c i (by omega) (by omega) (by omega)), h4.same (fun c i hc => o c i (by omega) (by omega) (by omega)), ⟨rfl, fun j _ _ => rfl⟩, (o 0 15 (by omega) (by omega) (by omega)).trans h6, h7.same (fun c i hc => o c i (by omega) (by omega) (by omega)), fun x => ?_, fun x => ?_⟩
    · exact (h8.1 (by rw [← o 0 16 (by omega) (by omega) (by omega)]; exact x)).same (fun c i _ _ => o c i (by omega) (by omega) (by omega))
    · exact (h8.2 (by rw [← o 0 17 (by omega) (by omega) (by omega)]; exact x)).same (fun c i _ => o c i (by omega) (by omega) (by omega))
  · obtain ⟨h1, h2, h3, h4, h5, h6, h7⟩ := hM
    have o : ∀ c i, 84 ≤ c → ¬ (c = 84 ∧ (i = 0 ∨ i = 16)) → c ≠ 91 → M' c i = M c i := fun c i c0 c1 c2 => fr c i (by omega) (by omega) c1 c2
    exact ⟨h1.same (fun i => o 90 i (by omega) (by omega) (by omega)), h2.same (fun c i hc => o c i (by omega) (by omega) (by omega)), h3.same (fun c i hc => o c i (by omega) (by omega) (by omega)), h4.same (fun c i hc => o c i (by omega) (by omega) (by omega)), ⟨a1, fun j j0 j1 => ⟨(a4 j j0 j1).symm, a5 j j0 (by have j1 : j < M' 1 1 := j1; omega)⟩⟩, (o 84 23 (by omega) (by omega) (by omega)).trans h6, h7.same (fun c i hc => o c i (by omega) (by omega) (by omega))⟩
