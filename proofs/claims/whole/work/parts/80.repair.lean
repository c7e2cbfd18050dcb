/-! ===== law 26 ===== -/
theorem CI.bef {T : Tx} {G : Sn} {B : Bx} {M M' : Mem} (hW : WT T) (h : CI T G B M) (e : ∀ c i, c < 84 → c ≠ 17 → c ≠ 18 → c ≠ 19 → M' c i = M c i) : CI T G B M' := by
  obtain ⟨h1, h2, h3, h4, h5, h6, h7, h8⟩ := h
  refine ⟨h1.same (fun i => e _ i (by omega) (by omega) (by omega) (by omega)) (fun i => e _ i (by omega) (by omega) (by omega) (by omega)) (fun i => e _ i (by omega) (by omega) (by omega) (by omega)), h2.same hW.2.1.2.1 (fun c i hc => e c i (by omega) (by omega) (by omega) (by omega)), h3.same (fun c i hc => e c i (by omega) (by omega) (by omega) (by omega)), h4.same (fun c i hc => e c i (by omega) (by omega) (by omega) (by omega)), h5.same (fun c i hc => e c i (by omega) (by omega) (by omega) (by omega)), (e 0 15 (by omega) (by omega) (by omega) (by omega)).trans h6, h7.same (fun c i hc => e c i (by omega) (by omega) (by omega) (by omega)), fun x => ?_, fun x => ?_⟩
  · exact (h8.1 (by rw [← e 0 16 (by omega) (by omega) (by omega) (by omega)]; exact x)).same (fun c i _ _ => e c i (by omega) (by omega) (by omega) (by omega))
  · exact (h8.2 (by rw [← e 0 17 (by omega) (by omega) (by omega) (by omega)]; exact x)).same (fun c i _ => e c i (by omega) (by omega) (by omega) (by omega))
/-- the page of before is kept, whatever the page of now is -/
theorem c_keep17 {T : Tx} {G : Sn} {B : Bx} {M : Mem} {P0 : Pg} (hW : WT T) (h : CI T G B M) (hP : PgC M 17 P0) (hW0 : Wf P0) : Ok (f_X0_keep 17 M) (fun M' => CI (T.1, pushN T.2.1, pushH T.2.1 T.2.2.1 P0, T.2.2.2) G B M' ∧ FrC M M') := by
  refine (keep_ok 17 (Or.inr rfl) M hP hW0 h.2.1 hW.2.1).mono (fun M' ⟨k1, k2⟩ => ⟨?_, fun c i hc => k2 c (by omega) i⟩)
  obtain ⟨h1, h2, h3, h4, h5, h6, h7, h8⟩ := h
  refine ⟨h1.same (fun i => k2 _ (by omega) i) (fun i => k2 _ (by omega) i) (fun i => k2 _ (by omega) i), k1, h3.same (fun c i hc => k2 c (by omega) i), h4.same (fun c i hc => k2 c (by omega) i), h5.same (fun c i hc => k2 c (by omega) i), (k2 0 (by omega) 15).trans h6, h7.same (fun c i hc => k2 c (by omega) i), fun x => ?_, fun x => ?_⟩
  · exact (h8.1 (by rw [← k2 0 (by omega) 16]; exact x)).same (fun c i _ _ => k2 c (by omega) i)
  · exact (h8.2 (by rw [← k2 0 (by omega) 17]; exact x)).same (fun c i _ => k2 c (by omega) i)
theorem law_26_ok {T : Tx} {G : Sn} {B : Bx} {M : Mem} (hW : WT T) (hG : WG G) (hC : CI T G B M) (hM : MoI T G B M) : Ok (f_law_26 M) (fun M' => ∃ T', WT T' ∧ CI T' G B M' ∧ MoI T' G B M') := by
  unfold f_law_26
  have gb := gsm_bd G.1 T.1 (Kk G.1 T.1)
  have hK := Kk_le G.1 hW.1
  have l0 := hW.1.l0
  have l1 := hW.1.l1
  by_cases hl : T.1.len + gsm G.1 T.1 (Kk G.1 T.1) ≤ 240
  · have wR := RC_all hG hW.1 (Kk G.1 T.1) T.1 (Nat.le_refl _) (RC_start hW.1 hl)
    have hW' : WT (rpS G T.1 (Kk G.1 T.1) T.1, (pushT T).2) := (pushT_w hW).page wR
    refine (lawV (T' := (rpS G T.1 (Kk G.1 T.1) T.1, (pushT T).2)) (Tot G.1 T.1) hM hW' ?_ (fun M1 h1 => ?_)).mono (fun M' h => ⟨_, hW', h⟩)
    · unfold f_X9_repair
      refine .bind (c_mendNow hW hG hC) (fun M1 ⟨m1, m2, m3, m4⟩ => .let fun x ex => .bind (copyFrom_ok (o := 17) (o1 := 14) (by omega) (by omega) (by omega) (by omega) M1 m3.1 hW.1) (fun M2 ⟨a1, a2⟩ => ?_))
      have c2 : CI T G B M2 := m3.bef hW (fun c i _ c1 c2 c3 => a2 c c1 c2 c3 i)
      have v2 : MdV G.1 T.1 M2 := m1.same (fun c i hc => a2 c (by omega) (by omega) (by omega) i)
      refine .bind (mendText_ok hG hW.1 M2 c2.1 c2.2.2.2.1 v2) (fun r ⟨hr, _⟩ => ?_)
      obtain ⟨r1, r2, r3, r4, r5⟩ := hr hl
      have c3 : CI (rpS G T.1 (Kk G.1 T.1) T.1, T.2) G B r.2 := c2.page hW r2 (fun c i _ x1 x2 x3 hq => r5 c i x1 x2 x3 (by unfold QC at hq; omega)) (CCa.due r3 r4)
      have p17 : PgC r.2 17 T.1 := a1.same (fun i => r5 _ i (by omega) (by omega) (by omega) (by omega)) (fun i => r5 _ i (by omega) (by omega) (by omega) (by omega)) (fun i => r5 _ i (by omega) (by omega) (by omega) (by omega))
      refine .ifF (by omega) (.bind (c_keep17 (hW.page wR) c3 p17 hW.1) (fun M3 ⟨b1, b2⟩ => .ret ⟨ex.trans m1.1, b1, ?_⟩))
      exact ((m4.trans (fun c i hc => a2 c (by omega) (by omega) (by omega) i)).trans (fun c i hc => r5 c i (by omega) (by omega) (by omega) (by omega))).trans b2
    · unfold f_X10_repair
      refine .put fun M2 e2 => ?_
      obtain ⟨a1, a2, a3⟩ := h1.put0 e2
      refine .bind (m_lays hW hG a1) (fun p ⟨p1, p2, p3, p4, p5⟩ => .let fun x ex => .bind (.val (longBehind_at hW p2 p3.1.1)) (fun y hy => ?_))
      refine .ifT (by omega) (.bind (m_keeps hW p3) (fun M3 ⟨k1, k2, k3, k4⟩ => ?_))
      have v3 : MR T G M3 := ⟨p2.1.same (fun c i hc => k4 c i (by omega) (by omega)), fun k hk => by rw [k4 100 _ (by omega) (by omega), k4 101 _ (by omega) (by omega)]; exact p2.2 k hk⟩
      exact .bind (repairs_ok (T := pushT T) (pushT_w hW) hG k1 v3 hl) (fun M4 ⟨q1, q2, q3⟩ => .ret ⟨ex.trans p1, q1, ((a2.trans p4).trans k2).trans q2⟩)
  · refine (lawV (-2) hM hW ?_ (fun M1 h1 => ?_)).mono (fun M' h => ⟨T, hW, h⟩)
    · unfold f_X9_repair
      refine .bind (c_mendNow hW hG hC) (fun M1 ⟨m1, m2, m3, m4⟩ => .let fun x ex => .bind (copyFrom_ok (o := 17) (o1 := 14) (by omega) (by omega) (by omega) (by omega) M1 m3.1 hW.1) (fun M2 ⟨a1, a2⟩ => ?_))
      have c2 : CI T G B M2 := m3.bef hW (fun c i _ c1 c2 c3 => a2 c c1 c2 c3 i)
      have v2 : MdV G.1 T.1 M2 := m1.same (fun c i hc => a2 c (by omega) (by omega) (by omega) i)
      refine .bind (mendText_ok hG hW.1 M2 c2.1 c2.2.2.2.1 v2) (fun r ⟨_, hr⟩ => ?_)
      obtain ⟨r1, r2⟩ := hr hl
      refine .ifT r1 (.ret ⟨rfl, ?_, ?_⟩)
      · show CI T G B r.2
        rw [r2]; exact c2
      · show FrC M r.2
        rw [r2]
        exact m4.trans (fun c i hc => a2 c (by omega) (by omega) (by omega) i)
    · unfold f_X10_repair
      refine .put fun M2 e2 => ?_
      obtain ⟨a1, a2, a3⟩ := h1.put0 e2
      refine .bind (m_lays hW hG a1) (fun p ⟨p1, p2, p3, p4, p5⟩ => .let fun x ex => .bind (.val (longBehind_at hW p2 p3.1.1)) (fun y hy => ?_))
      exact .ifF (by omega) (.ret ⟨rfl, p3, a2.trans p4⟩)
