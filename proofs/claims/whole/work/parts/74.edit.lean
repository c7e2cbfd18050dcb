/-! ===== changes: what both do to a page ===== -/
/-- the same page, as far as it says something -/
def PgE (P Q : Pg) : Prop := Q.len = P.len ∧ Q.mk = P.mk ∧ Q.col = P.col ∧ Q.drop = P.drop ∧ Q.give = P.give ∧ Q.chg = P.chg ∧ (∀ p, 0 ≤ p → p < P.len → Q.b p = P.b p) ∧ ∀ k, 0 ≤ k → k < P.mk → Q.m k = P.m k
theorem PgC.eqv {M : Mem} {o : Nat} {P Q : Pg} (h : PgC M o P) (e : PgE P Q) : PgC M o Q := by
  obtain ⟨q1, q2, q3, q4, q5, q6, q7, q8⟩ := h
  obtain ⟨e1, e2, e3, e4, e5, e6, e7, e8⟩ := e
  exact ⟨q1.trans e1.symm, q2.trans e2.symm, q3.trans e3.symm, q4.trans e4.symm, q5.trans e5.symm, q6.trans e6.symm, fun p p0 p1 => by rw [e1] at p1; rw [e7 p p0 p1]; exact q7 p p0 p1, fun k k0 k1 => by rw [e2] at k1; rw [e8 k k0 k1]; exact q8 k k0 k1⟩
theorem PgM.eqv {M : Mem} {a : Nat} {r : Int} {P Q : Pg} (h : PgM M a r P) (e : PgE P Q) : PgM M a r Q := by
  obtain ⟨q1, q2, q3, q4, q5, q6, q7, q8⟩ := h
  obtain ⟨e1, e2, e3, e4, e5, e6, e7, e8⟩ := e
  exact ⟨q1.trans e1.symm, q2.trans e2.symm, q3.trans e3.symm, q4.trans e4.symm, q5.trans e5.symm, q6.trans e6.symm, fun p p0 p1 => by rw [e1] at p1; rw [e7 p p0 p1]; exact q7 p p0 p1, fun k k0 k1 => by rw [e2] at k1; rw [e8 k k0 k1]; exact q8 k k0 k1⟩
theorem CI.page {T : Tx} {G : Sn} {B : Bx} {M M' : Mem} {P' : Pg} (hW : WT T) (h : CI T G B M) (hP : PgC M' 14 P') (fr : ∀ c i, c < 84 → c ≠ 14 → c ≠ 15 → c ≠ 16 → ¬ QC c i → M' c i = M c i) (hc : CCa G.1 P' M') : CI (P', T.2) G B M' := by
  obtain ⟨h1, h2, h3, h4, h5, h6, h7, h8⟩ := h
  refine ⟨hP, h2.same hW.2.1.2.1 (fun c i hc => fr c i (by omega) (by omega) (by omega) (by omega) (by unfold QC; omega)), h3.same (fun c i hc => fr c i (by omega) (by omega) (by omega) (by omega) (by unfold QC; omega)), h4.same (fun c i hc => fr c i (by omega) (by omega) (by omega) (by omega) (by unfold QC; omega)), h5.same (fun c i hc => fr c i (by omega) (by omega) (by omega) (by omega) (by unfold QC; omega)), (fr 0 15 (by omega) (by omega) (by omega) (by omega) (by unfold QC; omega)).trans h6, h7.same (fun c i hc => fr c i (by omega) (by omega) (by omega) (by omega) (by unfold QC; omega)), hc⟩
theorem CI.pageD {T : Tx} {G : Sn} {B : Bx} {M M' : Mem} {P' : Pg} (hW : WT T) (h : CI T G B M) (hP : PgC M' 14 P') (fr : Fr3 M M' 14) (d1 : M 0 16 = 1) (d2 : M 0 17 = 1) : CI (P', T.2) G B M' ∧ FrC M M' ∧ M' 0 16 = 1 ∧ M' 0 17 = 1 := by
  have e1 : M' 0 16 = 1 := (fr 0 (by omega) (by omega) (by omega) 16).trans d1
  have e2 : M' 0 17 = 1 := (fr 0 (by omega) (by omega) (by omega) 17).trans d2
  exact ⟨h.page hW hP (fun c i _ c1 c2 c3 _ => fr c c1 c2 c3 i) ⟨fun x => by omega, fun x => by omega⟩, fun c i hc => fr c (by omega) (by omega) (by omega) i, e1, e2⟩
theorem MoI.page {T : Tx} {G : Sn} {B : Bx} {M M' : Mem} {P' : Pg} (h : MoI T G B M) (hP : PgM M' 90 0 P') (fr : Fr1 M M' 90) : MoI (P', T.2) G B M' ∧ FrM M M' ∧ M' 84 0 = M 84 0 := by
  obtain ⟨h1, h2, h3, h4, h5, h6, h7⟩ := h
  exact ⟨⟨hP, h2.same (fun c i hc => fr c (by omega) i), h3.same (fun c i hc => fr c (by omega) i), h4.same (fun c i hc => fr c (by omega) i), h5.same (fun c i hc => fr c (by omega) i), (fr 84 (by omega) 23).trans h6, h7.same (fun c i hc => fr c (by omega) i)⟩, fun c i hc => fr c (by omega) i, fr 84 (by omega) 0⟩
def pushT (T : Tx) : Tx := (T.1, pushN T.2.1, pushH T.2.1 T.2.2.1 T.1, T.2.2.2)
theorem pushT_w {T : Tx} (h : WT T) : WT (pushT T) := ⟨h.1, pushW h.2.1 h.1, h.2.2⟩
theorem WT.page {T : Tx} (h : WT T) {P' : Pg} (hP : Wf P') : WT (P', T.2) := ⟨hP, h.2⟩
theorem c_keep {T : Tx} {G : Sn} {B : Bx} {M : Mem} (hW : WT T) (h : CI T G B M) : Ok (f_X0_keep 14 M) (fun M' => CI (pushT T) G B M' ∧ FrC M M' ∧ ∀ b, (b < 20 ∨ 52 ≤ b) → ∀ i, M' b i = M b i) := by
  refine (keep_ok 14 (Or.inl rfl) M h.1 hW.1 h.2.1 hW.2.1).mono (fun M' ⟨k1, k2⟩ => ⟨?_, fun c i hc => k2 c (by omega) i, k2⟩)
  obtain ⟨h1, h2, h3, h4, h5, h6, h7, h8⟩ := h
  refine ⟨h1.same (fun i => k2 _ (by omega) i) (fun i => k2 _ (by omega) i) (fun i => k2 _ (by omega) i), k1, h3.same (fun c i hc => k2 c (by omega) i), h4.same (fun c i hc => k2 c (by omega) i), h5.same (fun c i hc => k2 c (by omega) i), (k2 0 (by omega) 15).trans h6, h7.same (fun c i hc => k2 c (by omega) i), fun x => ?_, fun x => ?_⟩
  · exact (h8.1 (by rw [← k2 0 (by omega) 16]; exact x)).same (fun c i _ _ => k2 c (by omega) i)
  · exact (h8.2 (by rw [← k2 0 (by omega) 17]; exact x)).same (fun c i _ => k2 c (by omega) i)
theorem c_touch {T : Tx} {G : Sn} {B : Bx} {M : Mem} (hW : WT T) (h : CI T G B M) : Ok (f_X9_textTouched M) (fun M' => CI T G B M' ∧ FrC M M' ∧ M' 0 16 = 1 ∧ M' 0 17 = 1 ∧ ∀ c i, ¬ (c = 0 ∧ (i = 16 ∨ i = 17)) → M' c i = M c i) := by
  unfold f_X9_textTouched
  refine .put fun M1 e1 => .put fun M2 e2 => .ret ?_
  have a : M2 0 16 = 1 := by rw [e2, if_neg (by omega), e1, if_pos ⟨rfl, rfl⟩]
  have b : M2 0 17 = 1 := by rw [e2, if_pos ⟨rfl, rfl⟩]
  have o : ∀ c i, ¬ (c = 0 ∧ (i = 16 ∨ i = 17)) → M2 c i = M c i := fun c i hc => by rw [e2, if_neg (by omega), e1, if_neg (by omega)]
  exact ⟨h.q hW (fun c i _ hq => o c i (by unfold QC at hq; omega)) ⟨fun x => by omega, fun x => by omega⟩, fun c i hc => o c i (by omega), a, b, o⟩
/-- touched, whatever page lies there -/
theorem touch_ok (M : Mem) : Ok (f_X9_textTouched M) (fun M' => M' 0 16 = 1 ∧ M' 0 17 = 1 ∧ ∀ c i, ¬ (c = 0 ∧ (i = 16 ∨ i = 17)) → M' c i = M c i) := by
  unfold f_X9_textTouched
  refine .put fun M1 e1 => .put fun M2 e2 => .ret ⟨by rw [e2, if_neg (by omega), e1, if_pos ⟨rfl, rfl⟩], by rw [e2, if_pos ⟨rfl, rfl⟩], fun c i hc => by rw [e2, if_neg (by omega), e1, if_neg (by omega)]⟩
theorem c_begin {T : Tx} {G : Sn} {B : Bx} {M : Mem} (hW : WT T) (h : CI T G B M) : Ok (f_X9_beginChange M) (fun M' => CI (pushT T) G B M' ∧ FrC M M' ∧ M' 0 16 = 1 ∧ M' 0 17 = 1) := by
  unfold f_X9_beginChange
  exact .bind (c_keep hW h) (fun M1 ⟨a1, a2, a3⟩ => .bind (c_touch (pushT_w hW) a1) (fun M2 ⟨b1, b2, b3, b4, b5⟩ => .ret ⟨b1, a2.trans b2, b3, b4⟩))
theorem m_keeps {T : Tx} {G : Sn} {B : Bx} {M : Mem} (hW : WT T) (h : MoI T G B M) : Ok (f_X10_keeps M) (fun M' => MoI (pushT T) G B M' ∧ FrM M M' ∧ M' 84 0 = M 84 0 ∧ ∀ c i, c ≠ 110 → ¬ (c = 84 ∧ i = 46) → M' c i = M c i) := by
  refine (keeps_ok M h.1 hW.1 h.2.1 hW.2.1).mono (fun M' ⟨k1, k2⟩ => ⟨?_, fun c i hc => k2 c i (by omega) (by omega), k2 84 0 (by omega) (by omega), k2⟩)
  obtain ⟨h1, h2, h3, h4, h5, h6, h7⟩ := h
  exact ⟨h1.same (fun i => k2 90 i (by omega) (by omega)), k1, h3.same (fun c i hc => k2 c i (by omega) (by omega)), h4.same (fun c i hc => k2 c i (by omega) (by omega)), h5.same (fun c i hc => k2 c i (by omega) (by omega)), (k2 84 23 (by omega) (by omega)).trans h6, h7.same (fun c i hc => k2 c i (by omega) (by omega))⟩
/-! erase -/
theorem askRange_y {P : Pg} {M : Mem} (hP : PgC M 14 P) {f t : Int} (h : 0 ≤ f ∧ f ≤ t ∧ t ≤ P.len) : f_X9_askRange f t M = some (0, 0, M) := by
  unfold f_X9_askRange
  rw [hasRange_ok, if_pos (by rw [hP.1]; exact h)]
  rfl
theorem askRange_n {P : Pg} {M : Mem} (hP : PgC M 14 P) {f t : Int} (h : ¬ (0 ≤ f ∧ f ≤ t ∧ t ≤ P.len)) : f_X9_askRange f t M = some (1, 0, M) := by
  unfold f_X9_askRange
  rw [hasRange_ok, if_neg (by rw [hP.1]; exact h)]
  rfl
theorem m_noRange_y {T : Tx} {G : Sn} {B : Bx} {M : Mem} (h : MoI T G B M) (h0 : M 84 0 = 0) {f t : Int} (hr : 0 ≤ f ∧ f ≤ t ∧ t ≤ T.1.len) : Ok (f_X10_noRange f t M) (fun p => p = (0, M)) := by
  have p0 : M 90 0 = T.1.len := h.1.1
  unfold f_X10_noRange
  refine .ifF (by omega) (.ifF (by omega) (.ifT (by omega) (.bind (.val (throws_no 1 h0)) (fun p hp => ?_))))
  subst hp
  exact .ifT (Or.inl rfl) (.ret rfl)
theorem m_noRange_n {T : Tx} {G : Sn} {B : Bx} {M : Mem} (h : MoI T G B M) (h0 : M 84 0 = 0) {f t : Int} (hr : ¬ (0 ≤ f ∧ f ≤ t ∧ t ≤ T.1.len)) : Ok (f_X10_noRange f t M) (fun p => p.1 = 1 ∧ p.2 84 0 = 1 ∧ MoI T G B p.2 ∧ FrM M p.2) := by
  have p0 : M 90 0 = T.1.len := h.1.1
  have go : Ok ((f_X10_throwsIf 1 1 M).bind fun p26 => if p26.1 = 0 ∨ p26.1 = 1 then some (p26.1, p26.2) else none) (fun p => p.1 = 1 ∧ p.2 84 0 = 1 ∧ MoI T G B p.2 ∧ FrM M p.2) := by
    refine .bind (throws_yes 1 (by decide) h0) (fun p ⟨p1, p2⟩ => .ifT (Or.inr p1) (.ret ?_))
    obtain ⟨c1, c2, c3⟩ := h.put0 p2
    exact ⟨p1, c3, c1, c2⟩
  unfold f_X10_noRange
  exact .ifC (fun _ => go) (fun _ => .ifC (fun _ => go) (fun _ => .ifF (by omega) go))
def eraT (T : Tx) (f t : Int) : Tx := (takeP T.1 f t, (pushT T).2)
theorem law_23_ok {T : Tx} {G : Sn} {B : Bx} {M : Mem} (v1 v2 : Int) (hW : WT T) (hC : CI T G B M) (hM : MoI T G B M) : Ok (f_law_23 v1 v2 M) (fun M' => ∃ T', WT T' ∧ CI T' G B M' ∧ MoI T' G B M') := by
  unfold f_law_23 f_L_erase
  by_cases hr : 0 ≤ v1 ∧ v1 ≤ v2 ∧ v2 ≤ T.1.len
  · have hW' : WT (eraT T v1 v2) := (pushT_w hW).page (takeP_wf hW.1 hr.1 hr.2.1 hr.2.2)
    refine (lawW (T' := eraT T v1 v2) 0 0 (takeP T.1 v1 v2).len hM ?_ hW' (fun _ _ => rfl) (by decide) (fun M1 h1 => ?_)).mono (fun M' h => ⟨_, hW', h⟩)
    · unfold f_X9_erase
      refine .bind (.val (askRange_y hC.1 hr)) (fun z hz => ?_)
      subst hz
      refine .ifT rfl (.bind (c_begin hW hC) (fun M1 ⟨a1, a2, a3, a4⟩ => .bind (takeOut_ok 14 v1 v2 M1 a1.1 hW.1 hr.1 hr.2.1 hr.2.2) (fun M2 ⟨b1, b2⟩ => ?_)))
      obtain ⟨c1, c2, c3, c4⟩ := a1.pageD (pushT_w hW) b1 b2 a3 a4
      exact .ret ⟨rfl, fun _ => b1.1, c1, a2.trans c2⟩
    · unfold f_X10_erase
      refine .put fun M2 e2 => ?_
      obtain ⟨a1, a2, a3⟩ := h1.put0 e2
      refine .bind (m_noRange_y a1 a3 hr) (fun p hp => ?_)
      subst hp
      refine .ifT rfl (.bind (m_keeps hW a1) (fun M3 ⟨b1, b2, b3, b4⟩ => .bind (takesOut_ok v1 v2 M3 b1.1 hW.1 hr.1 hr.2.1 hr.2.2) (fun M4 ⟨c1, c2⟩ => ?_)))
      obtain ⟨d1, d2, d3⟩ := b1.page c1 c2
      exact .ret ⟨d3.trans (b3.trans a3), fun _ => c1.1, d1, (a2.trans b2).trans d2⟩
  · refine (lawW 1 1 0 hM ?_ hW (fun _ _ => rfl) (by decide) (fun M1 h1 => ?_)).mono (fun M' h => ⟨T, hW, h⟩)
    · unfold f_X9_erase
      refine .bind (.val (askRange_n hC.1 hr)) (fun z hz => ?_)
      subst hz
      exact .ifF (by show ¬ (1 : Nat) = 0; decide) (.ret ⟨rfl, fun h => absurd h (by decide), hC, FrC.rf⟩)
    · unfold f_X10_erase
      refine .put fun M2 e2 => ?_
      obtain ⟨a1, a2, a3⟩ := h1.put0 e2
      exact .bind (m_noRange_n a1 a3 hr) (fun p ⟨p1, p2, p3, p4⟩ => .ifF (by omega) (.ret ⟨p2, fun h => absurd h (by decide), p3, a2.trans p4⟩))
/-! wrap -/
theorem closingOf_at {G : Sn} (hG : WG G) {M : Mem} (h : CSg G M) {k : Int} (hk : 0 ≤ k ∧ k < G.2.1) : f_X7_closingOf 11 k M = some (G.2.2 (2 * k + 1).toNat) := by
  have g4 := hG.2.2.2.1
  unfold f_X7_closingOf f_X7_hasKind
  rw [h.2.1, if_neg (by omega), if_neg (by omega)]
  show (if (1 : Int) = 0 then some (-1) else if 4 ≤ k then some (-1) else if (0 : Int) ≤ w32 (w32 (2 * k) + 1) ∧ w32 (w32 (2 * k) + 1) < 8 then some (M 13 (w32 (w32 (2 * k) + 1))) else none) = _
  rw [if_neg (by decide), if_neg (by omega), w32_of (i := 2 * k) (by omega) (by omega), w32_of (by omega) (by omega), if_pos (by omega)]
  have := h.2.2 (2 * k + 1).toNat (by omega)
  rw [show (((2 * k + 1).toNat : Nat) : Int) = 2 * k + 1 by omega] at this
  exact congrArg some this
theorem openingOfS_at {G : Sn} (hG : WG G) {M : Mem} (h : CSg G M) {k : Int} (hk : 0 ≤ k ∧ k < G.2.1) : f_X7_openingOf 11 k M = some (G.2.2 (2 * k).toNat) := by
  have g4 := hG.2.2.2.1
  unfold f_X7_openingOf f_X7_hasKind
  rw [h.2.1, if_neg (by omega), if_neg (by omega)]
  show (if (1 : Int) = 0 then some (-1) else if 4 ≤ k then some (-1) else if (0 : Int) ≤ w32 (2 * k) ∧ w32 (2 * k) < 8 then some (M 13 (w32 (2 * k))) else none) = _
  rw [if_neg (by decide), if_neg (by omega), w32_of (i := 2 * k) (by omega) (by omega), if_pos (by omega)]
  have := h.2.2 (2 * k).toNat (by omega)
  rw [show (((2 * k).toNat : Nat) : Int) = 2 * k by omega] at this
  exact congrArg some this
def wrpP (G : Sn) (P : Pg) (f t k : Int) : Pg := putN (putN P t 1 (fun _ => G.2.2 (2 * k + 1).toNat)) f 1 (fun _ => G.2.2 (2 * k).toNat)
theorem put1_wf {P : Pg} (h : Wf P) {a c : Int} (h0 : 0 ≤ a) (h1 : a ≤ P.len) (hl : P.len + 1 ≤ 240) (hc : isTxt c) : Wf (putN P a 1 (fun _ => c)) := putN_wf h h0 h1 (by omega) hl (fun _ _ _ => hc)
theorem wrpP_wf {G : Sn} (hG : WG G) {P : Pg} (h : Wf P) {f t k : Int} (hr : 0 ≤ f ∧ f ≤ t ∧ t ≤ P.len) (hk : 0 ≤ k ∧ k < G.2.1) (hl : P.len + 2 ≤ 240) : Wf (wrpP G P f t k) ∧ Wf (putN P t 1 (fun _ => G.2.2 (2 * k + 1).toNat)) := by
  have w1 := put1_wf h (a := t) (c := G.2.2 (2 * k + 1).toNat) (by omega) (by omega) (by omega) (hG.2.2.2.2 _ (by omega))
  exact ⟨put1_wf w1 (by omega) (by show f ≤ P.len + 1; omega) (by show P.len + 1 + 1 ≤ 240; omega) (hG.2.2.2.2 _ (by omega)), w1⟩
/-- both signs put in, in the class -/
theorem c_putPair {T : Tx} {G : Sn} {B : Bx} {M : Mem} (hW : WT T) (hG : WG G) (h : CI T G B M) (d1 : M 0 16 = 1) (d2 : M 0 17 = 1) {f t k : Int} (hr : 0 ≤ f ∧ f ≤ t ∧ t ≤ T.1.len) (hk : 0 ≤ k ∧ k < G.2.1) (hl : T.1.len + 2 ≤ 240) : Ok (f_X9_putPair f t k M) (fun M' => CI (wrpP G T.1 f t k, T.2) G B M' ∧ FrC M M' ∧ M' 0 16 = 1 ∧ M' 0 17 = 1) := by
  obtain ⟨w2, w1⟩ := wrpP_wf hG hW.1 hr hk hl
  unfold f_X9_putPair
  refine .bind (.val (closingOf_at hG h.2.2.2.1 hk)) (fun x hx => ?_)
  subst hx
  refine .bind (putByte_ok 14 t _ M h.1 hW.1 (by omega) (by omega) (by omega)) (fun M1 ⟨b1, b2⟩ => ?_)
  obtain ⟨c1, c2, c3, c4⟩ := h.pageD hW b1 b2 d1 d2
  refine .bind (.val (openingOfS_at hG c1.2.2.2.1 hk)) (fun x hx => ?_)
  subst hx
  refine .bind (putByte_ok 14 f _ M1 c1.1 w1 (by omega) (by show f ≤ T.1.len + 1; omega) (by show T.1.len + 1 + 1 ≤ 240; omega)) (fun M2 ⟨e1, e2⟩ => ?_)
  obtain ⟨f1, f2, f3, f4⟩ := c1.pageD (hW.page w1) e1 e2 c3 c4
  exact .bind (c_touch (hW.page w2) f1) (fun M3 ⟨g1, g2, g3, g4, g5⟩ => .ret ⟨g1, (c2.trans f2).trans g2, g3, g4⟩)
theorem m_wraps {T : Tx} {G : Sn} {B : Bx} {M : Mem} (hW : WT T) (hG : WG G) (h : MoI T G B M) {f t k : Int} (hr : 0 ≤ f ∧ f ≤ t ∧ t ≤ T.1.len) (hk : 0 ≤ k ∧ k < G.2.1) (hl : T.1.len + 2 ≤ 240) : Ok (f_X10_wraps f t k M) (fun M' => MoI (wrpP G T.1 f t k, T.2) G B M' ∧ FrM M M' ∧ M' 84 0 = M 84 0) := by
  obtain ⟨w2, w1⟩ := wrpP_wf hG hW.1 hr hk hl
  have g4 := hG.2.2.2.1
  have sg : ∀ M : Mem, MSg G M → M 86 k = G.2.2 (2 * k + 1).toNat ∧ M 85 k = G.2.2 (2 * k).toNat := fun M hM => by
    have := hM.2.2 k.toNat (by omega)
    rw [show ((k.toNat : Nat) : Int) = k by omega] at this
    rw [show (2 * k + 1).toNat = 2 * k.toNat + 1 by omega, show (2 * k).toNat = 2 * k.toNat by omega]
    exact ⟨this.2, this.1⟩
  unfold f_X10_wraps
  rw [(sg M h.2.2.2.1).1]
  refine .ifT (by omega) (.bind (puts_ok t _ M h.1 hW.1 (by omega) (by omega) (by omega)) (fun M1 ⟨b1, b2⟩ => ?_))
  obtain ⟨c1, c2, c3⟩ := h.page b1 b2
  rw [(sg M1 c1.2.2.2.1).2]
  refine .bind (puts_ok f _ M1 c1.1 w1 (by omega) (by show f ≤ T.1.len + 1; omega) (by show T.1.len + 1 + 1 ≤ 240; omega)) (fun M2 ⟨e1, e2⟩ => ?_)
  obtain ⟨f1, f2, f3⟩ := c1.page e1 e2
  exact .ret ⟨f1, c2.trans f2, f3.trans c3⟩
theorem law_24_ok {T : Tx} {G : Sn} {B : Bx} {M : Mem} (v1 v2 v3 : Int) (hW : WT T) (hG : WG G) (hC : CI T G B M) (hM : MoI T G B M) : Ok (f_law_24 v1 v2 v3 M) (fun M' => ∃ T', WT T' ∧ CI T' G B M' ∧ MoI T' G B M') := by
  have l0 := hW.1.l0
  have l1 := hW.1.l1
  unfold f_law_24 f_L_wrap
  by_cases hr : 0 ≤ v1 ∧ v1 ≤ v2 ∧ v2 ≤ T.1.len
  · by_cases hk : 0 ≤ v3 ∧ v3 < G.2.1
    · by_cases hl : T.1.len + 2 ≤ 240
      · have hW' : WT (wrpP G T.1 v1 v2 v3, (pushT T).2) := (pushT_w hW).page (wrpP_wf hG hW.1 hr hk hl).1
        refine (lawW (T' := (wrpP G T.1 v1 v2 v3, (pushT T).2)) 0 0 (wrpP G T.1 v1 v2 v3).len hM ?_ hW' (fun _ _ => rfl) (by decide) (fun M1 h1 => ?_)).mono (fun M' h => ⟨_, hW', h⟩)
        · unfold f_X9_wrap
          refine .bind (.val (askRange_y hC.1 hr)) (fun z hz => ?_)
          subst hz
          refine .ifT rfl (.bind (.val (askKind_y hC.2.2.2.1 hk)) (fun z hz => ?_))
          subst hz
          refine .ifT rfl (.bind (.val (hasRoom_ok 14 2 M (by rw [hC.1.1]; omega) (by rw [hC.1.1]; omega))) (fun z hz => ?_))
          rw [if_pos (by rw [hC.1.1]; omega)] at hz
          refine .ifF (by omega) (.bind (c_begin hW hC) (fun M1 ⟨a1, a2, a3, a4⟩ => .bind (c_putPair (pushT_w hW) hG a1 a3 a4 hr hk hl) (fun M2 ⟨b1, b2, b3, b4⟩ => .ret ⟨rfl, fun _ => b1.1.1, b1, a2.trans b2⟩)))
        · unfold f_X10_wrap
          refine .put fun M2 e2 => ?_
          obtain ⟨a1, a2, a3⟩ := h1.put0 e2
          refine .bind (m_noRange_y a1 a3 hr) (fun p hp => ?_)
          subst hp
          refine .ifT rfl (.bind (m_noKind_y hG a1.2.2.2.1 a3 hk) (fun p hp => ?_))
          subst hp
          have p0 : M2 90 0 = T.1.len := a1.1.1
          refine .ifT rfl (.ifT (by show w32 (M2 90 0 + 2) ≤ 240; rw [p0, w32_of (by omega) (by omega)]; omega) (.bind (m_keeps hW a1) (fun M3 ⟨b1, b2, b3, b4⟩ => .bind (m_wraps (pushT_w hW) hG b1 hr hk hl) (fun M4 ⟨d1, d2, d3⟩ => .ret ⟨d3.trans (b3.trans a3), fun _ => d1.1.1, d1, (a2.trans b2).trans d2⟩))))
      · refine (lawW 0 0 (-2) hM ?_ hW (fun _ _ => rfl) (by decide) (fun M1 h1 => ?_)).mono (fun M' h => ⟨T, hW, h⟩)
        · unfold f_X9_wrap
          refine .bind (.val (askRange_y hC.1 hr)) (fun z hz => ?_)
          subst hz
          refine .ifT rfl (.bind (.val (askKind_y hC.2.2.2.1 hk)) (fun z hz => ?_))
          subst hz
          refine .ifT rfl (.bind (.val (hasRoom_ok 14 2 M (by rw [hC.1.1]; omega) (by rw [hC.1.1]; omega))) (fun z hz => ?_))
          rw [if_neg (by rw [hC.1.1]; omega)] at hz
          exact .ifT hz (.ret ⟨rfl, fun _ => rfl, hC, FrC.rf⟩)
        · unfold f_X10_wrap
          refine .put fun M2 e2 => ?_
          obtain ⟨a1, a2, a3⟩ := h1.put0 e2
          refine .bind (m_noRange_y a1 a3 hr) (fun p hp => ?_)
          subst hp
          refine .ifT rfl (.bind (m_noKind_y hG a1.2.2.2.1 a3 hk) (fun p hp => ?_))
          subst hp
          have p0 : M2 90 0 = T.1.len := a1.1.1
          exact .ifT rfl (.ifF (by show ¬ w32 (M2 90 0 + 2) ≤ 240; rw [p0, w32_of (by omega) (by omega)]; omega) (.ret ⟨a3, fun _ => rfl, a1, a2⟩))
    · refine (lawW 1 1 0 hM ?_ hW (fun _ _ => rfl) (by decide) (fun M1 h1 => ?_)).mono (fun M' h => ⟨T, hW, h⟩)
      · unfold f_X9_wrap
        refine .bind (.val (askRange_y hC.1 hr)) (fun z hz => ?_)
        subst hz
        refine .ifT rfl (.bind (.val (askKind_n hC.2.2.2.1 hk)) (fun z hz => ?_))
        subst hz
        exact .ifF (by show ¬ (1 : Nat) = 0; decide) (.ret ⟨rfl, fun h => absurd h (by decide), hC, FrC.rf⟩)
      · unfold f_X10_wrap
        refine .put fun M2 e2 => ?_
        obtain ⟨a1, a2, a3⟩ := h1.put0 e2
        refine .bind (m_noRange_y a1 a3 hr) (fun p hp => ?_)
        subst hp
        exact .ifT rfl (.bind (m_noKind_n hG a1 a3 hk) (fun p ⟨p1, p2, p3, p4⟩ => .ifF (by omega) (.ret ⟨p2, fun h => absurd h (by decide), p3, a2.trans p4⟩)))
  · refine (lawW 1 1 0 hM ?_ hW (fun _ _ => rfl) (by decide) (fun M1 h1 => ?_)).mono (fun M' h => ⟨T, hW, h⟩)
    · unfold f_X9_wrap
      refine .bind (.val (askRange_n hC.1 hr)) (fun z hz => ?_)
      subst hz
      exact .ifF (by show ¬ (1 : Nat) = 0; decide) (.ret ⟨rfl, fun h => absurd h (by decide), hC, FrC.rf⟩)
    · unfold f_X10_wrap
      refine .put fun M2 e2 => ?_
      obtain ⟨a1, a2, a3⟩ := h1.put0 e2
      exact .bind (m_noRange_n a1 a3 hr) (fun p ⟨p1, p2, p3, p4⟩ => .ifF (by omega) (.ret ⟨p2, fun h => absurd h (by decide), p3, a2.trans p4⟩))
