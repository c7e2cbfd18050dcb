/-! ===== load ===== -/
def loaP (P : Pg) (n : Int) (inp : Int → Int) : Pg := (n, 0, P.col, P.drop, P.give, P.chg, inp, P.m)
def newT (T : Tx) (P : Pg) : Tx := (P, 0, T.2.2.1, (fun _ => 0), T.2.2.2.2)
theorem newT_w {T : Tx} {P : Pg} (hP : Wf P) : WT (newT T P) := ⟨hP, ⟨Int.le_refl 0, by show (0 : Int) ≤ 10; omega, fun k k0 k1 => by have k1 : k < 0 := k1; omega⟩, fun s _ => ⟨Or.inl rfl, fun h => absurd h (by show ¬ (0 : Int) = 1; decide)⟩⟩
theorem loaP_w {P : Pg} (hW : Wf P) {n : Int} {inp : Int → Int} (h0 : 0 ≤ n) (h1 : n ≤ 240) (ht : allT inp n) : Wf (loaP P n inp) := ⟨⟨h0, h1, Int.le_refl 0, by show (0 : Int) ≤ 8; omega⟩, hW.2.1, ht, fun k k0 k1 => by have k1 : k < 0 := k1; omega⟩
theorem startAnew_ok (M : Mem) : Ok (f_X9_startAnew M) (fun M' => M' 0 16 = 1 ∧ M' 0 17 = 1 ∧ M' 20 2 = 0 ∧ M' 53 0 = 0 ∧ M' 53 1 = 0 ∧ ∀ c i, ¬ (c = 0 ∧ (i = 16 ∨ i = 17)) → ¬ (c = 20 ∧ i = 2) → c ≠ 53 → M' c i = M c i) := by
  unfold f_X9_startAnew
  refine .put fun M1 e1 => ?_
  rw [show (4096 : Nat) = 4093 + 1 + 1 + 1 from rfl, f_X9_startAnew_L10]
  refine .ifF (by decide) (.ifT (by decide) (.put fun M2 e2 => .let fun u eu => ?_))
  rw [show w32 (0 + 1) = 1 from w32_of (by decide) (by decide)] at eu
  subst eu
  rw [f_X9_startAnew_L10]
  refine .ifF (by decide) (.ifT (by decide) (.put fun M3 e3 => .let fun u eu => ?_))
  rw [show w32 (1 + 1) = 2 from w32_of (by decide) (by decide)] at eu
  subst eu
  rw [f_X9_startAnew_L10]
  refine .ifT (by decide) (.bind (touch_ok M3) (fun M4 ⟨t1, t2, t3⟩ => .ret ⟨t1, t2, ?_, ?_, ?_, fun c i c1 c2 c3 => ?_⟩))
  · rw [t3 20 2 (by omega), e3, if_neg (by omega), e2, if_neg (by omega), e1, if_pos ⟨rfl, rfl⟩]
  · rw [t3 53 0 (by omega), e3, if_neg (by omega), e2, if_pos ⟨rfl, rfl⟩]
  · rw [t3 53 1 (by omega), e3, if_pos ⟨rfl, rfl⟩]
  · rw [t3 c i c1, e3, if_neg (by omega), e2, if_neg (by omega), e1, if_neg c2]
/-- a new beginning, in the class: no undo, both slots empty, nothing known -/
theorem CI.anew {T : Tx} {G G' : Sn} {B B' : Bx} {P' : Pg} {M M' : Mem} (hW : WT T) (h : CI T G B M) (hP : PgC M' 14 P') (d1 : M' 0 16 = 1) (d2 : M' 0 17 = 1) (u : M' 20 2 = 0) (s0 : M' 53 0 = 0) (s1 : M' 53 1 = 0) (hG : CSg G' M') (hI : CIn B'.1 B'.2.1 M') (hE : M' 0 15 = B'.2.2.1) (hr : B'.2.2.2 = B.2.2.2) (o : ∀ c i, (c = 20 ∧ i = 1) ∨ (c = 0 ∧ i = 14) ∨ c = 77 → M' c i = M c i) : CI (newT T P') G' B' M' := by
  obtain ⟨h1, h2, h3, h4, h5, h6, h7, h8⟩ := h
  refine ⟨hP, ⟨u, by rw [o 20 1 (by omega)]; exact h2.2.1, by rw [o 20 1 (by omega)]; exact h2.2.2.1, fun k k0 k1 => by have k1 : k < 0 := k1; omega⟩, fun s hs => ⟨?_, fun hf => absurd hf (by show ¬ (0 : Int) = 1; decide)⟩, hG, hI, hE, ?_, CCa.due d1 d2⟩
  · show M' 53 s = 0
    have hs2 : s = 0 ∨ s = 1 := by omega
    rcases hs2 with rfl | rfl
    · exact s0
    · exact s1
  · rw [hr]
    exact h7.same (fun c i hc => o c i (by omega))
theorem MoI.anew {T : Tx} {G G' : Sn} {B B' : Bx} {P' : Pg} {M M' : Mem} (h : MoI T G B M) (hP : PgM M' 90 0 P') (u : M' 84 46 = 0) (s0 : M' 112 0 = 0) (s1 : M' 112 1 = 0) (hG : MSg G' M') (hI : MIn B'.1 B'.2.1 M') (hE : M' 84 23 = B'.2.2.1) (hr : B'.2.2.2 = B.2.2.2) (o : ∀ c i, (c = 84 ∧ i = 39) ∨ c = 104 → M' c i = M c i) : MoI (newT T P') G' B' M' := by
  obtain ⟨h1, h2, h3, h4, h5, h6, h7⟩ := h
  refine ⟨hP, ⟨u, fun k k0 k1 => by have k1 : k < 0 := k1; omega⟩, fun s hs => ⟨?_, fun hf => absurd hf (by show ¬ (0 : Int) = 1; decide)⟩, hG, hI, hE, ?_⟩
  · show M' 112 s = 0
    have hs2 : s = 0 ∨ s = 1 := by omega
    rcases hs2 with rfl | rfl
    · exact s0
    · exact s1
  · rw [hr]
    exact h7.same (fun c i hc => o c i (by omega))
theorem forgets_ok (M : Mem) : Ok (f_X10_forgets M) (fun M' => M' 84 46 = 0 ∧ M' 112 0 = 0 ∧ M' 112 1 = 0 ∧ ∀ c i, ¬ (c = 84 ∧ i = 46) → c ≠ 112 → M' c i = M c i) := by
  unfold f_X10_forgets
  refine .put fun M1 e1 => .put fun M2 e2 => .put fun M3 e3 => .ret ⟨?_, ?_, ?_, fun c i c1 c2 => ?_⟩
  · rw [e3, if_neg (by omega), e2, if_neg (by omega), e1, if_pos ⟨rfl, rfl⟩]
  · rw [e3, if_neg (by omega), e2, if_pos ⟨rfl, rfl⟩]
  · rw [e3, if_pos ⟨rfl, rfl⟩]
  · rw [e3, if_neg (by omega), e2, if_neg (by omega), e1, if_neg c1]
theorem m_load_L {P : Pg} {B : Bx} {n : Int} (hn : 0 ≤ n ∧ n ≤ 240) (hnB : n ≤ B.1) (ht : allT B.2.1 n) {Q : Int × Mem → Prop} : ∀ (r fuel : Nat) (k : Int) (M : Mem), (n - k).toNat = r → r < fuel → 0 ≤ k → k ≤ n → Byt B M → (∀ j, 0 ≤ j → j < k → M 90 (14 + j) = B.2.1 j) →
    (∀ M' : Mem, (∀ j, 0 ≤ j → j < n → M' 90 (14 + j) = B.2.1 j) → (∀ c i, ¬ (c = 90 ∧ 14 ≤ i) → M' c i = M c i) → Ok ((f_X10_forgets M').bind fun p93 => (f_X10_finds (-1) p93).bind fun p98 => some (p98 84 26, p98)) Q) → Ok (f_X10_load_L66 fuel n k M) Q := by
  intro r
  induction r with
  | zero =>
    intro fuel k M hr hf hk hk1 hb hq K
    obtain ⟨fuel, rfl⟩ : ∃ f, fuel = f + 1 := ⟨fuel - 1, by omega⟩
    rw [f_X10_load_L66]
    exact .ifT (by omega) (K M (fun j j0 j1 => hq j j0 (by omega)) (fun c i _ => rfl))
  | succ r ih =>
    intro fuel k M hr hf hk hk1 hb hq K
    obtain ⟨fuel, rfl⟩ : ∃ f, fuel = f + 1 := ⟨fuel - 1, by omega⟩
    have by_ := hb k hk (by omega)
    have tx := ht k hk (by omega)
    have er : M 91 k = B.2.1 k := by unfold isTxt at tx; omega
    rw [f_X10_load_L66, w32_of (i := 14 + k) (by omega) (by omega), er]
    refine .ifF (by omega) (.ifT (by omega) (.ifT (by omega) (.put fun M1 e1 => .let fun u eu => ?_)))
    rw [w32_of (by omega) (by omega)] at eu
    subst eu
    refine ih fuel (k + 1) M1 (by omega) (by omega) (by omega) (by omega) (fun j j0 j1 => by rw [e1, if_neg (by omega)]; exact hb j j0 j1) (fun j j0 j1 => ?_) (fun M' q1 q2 => K M' q1 (fun c i hc => by rw [q2 c i hc, e1, if_neg (by omega)]))
    rw [e1]
    by_cases e : j = k
    · rw [if_pos ⟨rfl, by omega⟩, e]
    · rw [if_neg (by omega)]; exact hq j j0 (by omega)
theorem law_2_ok {T : Tx} {G : Sn} {B : Bx} {M : Mem} (v1 : Int) (hW : WT T) (hG : WG G) (hB : WB B) (hC : CI T G B M) (hM : MoI T G B M) : Ok (f_law_2 v1 M) (fun M' => ∃ T' B', WT T' ∧ WB B' ∧ CI T' G B' M' ∧ MoI T' G B' M') := by
  have b600 := hB.2.1
  unfold f_law_2 f_L_load
  by_cases hn : 0 ≤ v1 ∧ v1 ≤ B.1
  · have mpre : ∀ (Q : Int × Mem → Prop) (M1 : Mem), MoI T G B M1 → (∀ M3 : Mem, MoI T G (emp B) M3 → FrM M1 M3 → M3 84 0 = 0 → Byt B M3 → Ok ((f_X10_refusal 0 v1 M3).bind fun p40 => if p40 = 0 then lt1 (up M3 90 0 v1) fun M56 => lt1 (up M56 90 1 0) fun M63 => f_X10_load_L66 4096 v1 0 M63 else some (p40, M3)) Q) → Ok (f_X10_load v1 M1) Q := by
      intro Q M1 h1 K
      unfold f_X10_load
      refine .put fun M2 e2 => ?_
      obtain ⟨a1, a2, a3⟩ := h1.put0 e2
      rw [show M2 84 16 = B.1 from a1.2.2.2.2.1.1]
      refine .bind (.val (isIn_y M2 hn)) (fun z hz => .ifF (by omega) (.bind (.val (throws_no 1 a3)) (fun p hp => ?_)))
      subst hp
      refine .ifT rfl (.put fun M3 e3 => ?_)
      obtain ⟨c1, c2, c3⟩ := a1.emp e3
      exact K M3 c1 (a2.trans c2) (c3.trans a3) (fun j j0 j1 => by rw [e3, if_neg (by omega)]; exact a1.2.2.2.2.1.2 j j0 j1)
    by_cases hok : 0 + v1 ≤ 240 ∧ allT B.2.1 v1
    · have wP := loaP_w hW.1 hn.1 (by omega) hok.2
      have hW' : WT (newT T (loaP T.1 v1 B.2.1)) := newT_w wP
      refine (lawW (T' := newT T (loaP T.1 v1 B.2.1)) (B' := emp B) 0 0 (nb (Rof G.1 (loaP T.1 v1 B.2.1)) (Nn (loaP T.1 v1 B.2.1))) hM ?_ hW' (fun _ _ => rfl) (by decide) (fun M1 h1 => ?_)).mono (fun M' h => ⟨_, _, hW', emp_w hB, h⟩)
      · unfold f_X9_load
        refine .bind (.val (askInput_y hC.2.2.2.2.1 hn)) (fun z hz => ?_)
        subst hz
        refine .ifT rfl (.bind (c_refusal hB hC.2.2.2.2.1 hn (by omega)) (fun r ⟨r1, r2, r3⟩ => ?_))
        have r0 := r1 hok.1 hok.2
        refine .ifT r0 (.bind (Q := fun M1 => PgC M1 14 (0, 0, T.1.col, T.1.drop, T.1.give, T.1.chg, T.1.b, T.1.m) ∧ ∀ c i, c ≠ 14 → M1 c i = M c i) ?_ (fun M1 ⟨a1, a2⟩ => ?_))
        · unfold f_X4_clearText
          refine .put fun M1 e1 => .put fun M2 e2 => .ret ⟨?_, fun c i hc => by rw [e2, if_neg (by omega), e1, if_neg (by omega)]⟩
          obtain ⟨q1, q2, q3, q4, q5, q6, q7, q8⟩ := hC.1
          refine ⟨?_, ?_, ?_, ?_, ?_, ?_, fun p p0 p1 => by have p1 : p < 0 := p1; omega, fun k k0 k1 => by have k1 : k < 0 := k1; omega⟩
          · rw [e2, if_neg (by omega), e1, if_pos ⟨rfl, rfl⟩]; rfl
          · rw [e2, if_pos ⟨rfl, rfl⟩]; rfl
          · rw [e2, if_neg (by omega), e1, if_neg (by omega)]; exact q3
          · rw [e2, if_neg (by omega), e1, if_neg (by omega)]; exact q4
          · rw [e2, if_neg (by omega), e1, if_neg (by omega)]; exact q5
          · rw [e2, if_neg (by omega), e1, if_neg (by omega)]; exact q6
        · have w0 : Wf ((0, 0, T.1.col, T.1.drop, T.1.give, T.1.chg, T.1.b, T.1.m) : Pg) := ⟨⟨Int.le_refl 0, by show (0 : Int) ≤ 240; omega, Int.le_refl 0, by show (0 : Int) ≤ 8; omega⟩, hW.1.2.1, fun p p0 p1 => by have p1 : p < 0 := p1; omega, fun k k0 k1 => by have k1 : k < 0 := k1; omega⟩
          refine .bind (putIn_ok 14 (by omega) (by omega) (by omega) 0 v1 M1 a1 w0 (Int.le_refl 0) (Int.le_refl 0) hn.1 hok.1) (fun M2 ⟨b1, b2⟩ => .bind (startAnew_ok M2) (fun M3 ⟨t1, t2, t3, t4, t5, t6⟩ => ?_))
          have b1' : PgC M2 14 (loaP T.1 v1 B.2.1) := by
            refine b1.eqv ⟨by show v1 = 0 + v1; omega, rfl, rfl, rfl, rfl, rfl, fun p p0 p1 => ?_, fun k k0 k1 => by have k1 : k < 0 := k1; omega⟩
            have p1 : p < 0 + v1 := p1
            show B.2.1 p = if p < 0 then T.1.b p else if p < 0 + v1 then M1 2 (p - 0) else T.1.b (p - v1)
            rw [if_neg (by omega), if_pos p1, Int.sub_zero, a2 2 p (by omega)]
            exact (hC.2.2.2.2.1.2 p p0 (by omega)).symm
          unfold f_X9_load_K40
          refine .put fun M4 e4 => .ifT r0 ?_
          have o : ∀ c i, c ≠ 14 → c ≠ 15 → c ≠ 16 → ¬ (c = 0 ∧ (i = 16 ∨ i = 17)) → ¬ (c = 20 ∧ i = 2) → c ≠ 53 → ¬ (c = 1 ∧ i = 1) → M4 c i = M c i := fun c i c1 c2 c3 c4 c5 c6 c7 => by rw [e4, if_neg c7, t6 c i c4 c5 c6, b2 c c1 c2 c3 i, a2 c i c1]
          have hP4 : PgC M4 14 (loaP T.1 v1 B.2.1) := b1'.same (fun i => by rw [e4, if_neg (by omega), t6 _ i (by omega) (by omega) (by omega)]) (fun i => by rw [e4, if_neg (by omega), t6 _ i (by omega) (by omega) (by omega)]) (fun i => by rw [e4, if_neg (by omega), t6 _ i (by omega) (by omega) (by omega)])
          have hC4 : CI (newT T (loaP T.1 v1 B.2.1)) G (emp B) M4 := by
            refine hC.anew hW hP4 (by rw [e4, if_neg (by omega)]; exact t1) (by rw [e4, if_neg (by omega)]; exact t2) (by rw [e4, if_neg (by omega)]; exact t3) (by rw [e4, if_neg (by omega)]; exact t4) (by rw [e4, if_neg (by omega)]; exact t5) (hC.2.2.2.1.same (fun c i hc => o c i (by omega) (by omega) (by omega) (by omega) (by omega) (by omega) (by omega))) ⟨by rw [e4, if_pos ⟨rfl, rfl⟩]; rfl, fun j j0 j1 => by have j1 : j < 0 := j1; omega⟩ ((o 0 15 (by omega) (by omega) (by omega) (by omega) (by omega) (by omega) (by omega)).trans hC.2.2.2.2.2.1) rfl (fun c i hc => o c i (by omega) (by omega) (by omega) (by omega) (by omega) (by omega) (by omega))
          exact .bind (c_readNow hW' hC4) (fun M5 ⟨r1, r2, r3, r4, r5⟩ => .ret ⟨rfl, fun _ => r1.2.1, r3, fun c i hc => (r4 c i hc).trans (o c i (by omega) (by omega) (by omega) (by omega) (by omega) (by omega) (by omega))⟩)
      · refine mpre _ M1 h1 (fun M3 c1 c2 c3 c4 => ?_)
        refine .bind (m_refusal hB c4 hn (by omega)) (fun r ⟨r1, r2, r3⟩ => .ifT (r1 hok.1 hok.2) (.put fun M4 e4 => .put fun M5 e5 => ?_))
        refine m_load_L (P := T.1) (B := B) ⟨hn.1, by omega⟩ hn.2 hok.2 (v1 - 0).toNat 4096 0 M5 rfl (by omega) (Int.le_refl 0) hn.1 (fun j j0 j1 => by rw [e5, if_neg (by omega), e4, if_neg (by omega)]; exact c4 j j0 j1) (fun j j0 j1 => by omega) (fun M6 q1 q2 => ?_)
        refine .bind (forgets_ok M6) (fun M7 ⟨f1, f2, f3, f4⟩ => ?_)
        have o : ∀ c i, c ≠ 90 → ¬ (c = 84 ∧ i = 46) → c ≠ 112 → M7 c i = M3 c i := fun c i x1 x2 x3 => by rw [f4 c i x2 x3, q2 c i (by omega), e5, if_neg (by omega), e4, if_neg (by omega)]
        have hP7 : PgM M7 90 0 (loaP T.1 v1 B.2.1) := by
          obtain ⟨z1, z2, z3, z4, z5, z6, z7, z8⟩ := c1.1
          refine ⟨?_, ?_, ?_, ?_, ?_, ?_, fun p p0 p1 => ?_, fun k k0 k1 => by have k1 : k < 0 := k1; omega⟩
          · rw [f4 _ _ (by omega) (by omega), q2 _ _ (by omega), e5, if_neg (by omega), e4, if_pos ⟨rfl, rfl⟩]; rfl
          · rw [f4 _ _ (by omega) (by omega), q2 _ _ (by omega), e5, if_pos ⟨rfl, by omega⟩]; rfl
          · rw [f4 _ _ (by omega) (by omega), q2 _ _ (by omega), e5, if_neg (by omega), e4, if_neg (by omega)]; exact z3
          · rw [f4 _ _ (by omega) (by omega), q2 _ _ (by omega), e5, if_neg (by omega), e4, if_neg (by omega)]; exact z4
          · rw [f4 _ _ (by omega) (by omega), q2 _ _ (by omega), e5, if_neg (by omega), e4, if_neg (by omega)]; exact z5
          · rw [f4 _ _ (by omega) (by omega), q2 _ _ (by omega), e5, if_neg (by omega), e4, if_neg (by omega)]; exact z6
          · rw [f4 _ _ (by omega) (by omega), show (0 : Int) + 14 + p = 14 + p by omega]; exact q1 p p0 p1
        have hM7 : MoI (newT T (loaP T.1 v1 B.2.1)) G (emp B) M7 := by
          refine c1.anew hP7 f1 f2 f3 (c1.2.2.2.1.same (fun c i hc => o c i (by omega) (by omega) (by omega))) (c1.2.2.2.2.1.same (fun c i hc => o c i (by omega) (by omega) (by omega))) ((o 84 23 (by omega) (by omega) (by omega)).trans c1.2.2.2.2.2.1) rfl (fun c i hc => o c i (by omega) (by omega) (by omega))
        have fr7 : FrM M1 M7 := c2.trans (fun c i hc => o c i (by omega) (by omega) (by omega))
        refine .bind (finds_ok (-1) wP hG.2.1 M7 hM7.1 hM7.2.2.2.1.1) (fun M8 ⟨hF, fr8⟩ => .ret ⟨?_, fun _ => hF.ma.1, hM7.q (fun c i h0 h1 hq => fr8 c i (by unfold QM at hq; omega) (by unfold QM at hq; omega) (by unfold QM at hq; omega) (by unfold QM at hq; omega) (by unfold QM at hq; omega)), fr7.trans (fun c i hc => fr8 c i (by omega) (by omega) (by omega) (by omega) (by omega))⟩)
        show M8 84 0 = 0
        rw [fr8 84 0 (by omega) (by omega) (by omega) (by omega) (by omega), o 84 0 (by omega) (by omega) (by omega)]
        exact c3
    · have ref : ∃ rv : Int, rv ≠ 0 ∧ ∀ r : Int, (0 + v1 ≤ 240 → allT B.2.1 v1 → r = 0) ∧ (0 + v1 ≤ 240 → ¬ allT B.2.1 v1 → r = -3) ∧ (¬ 0 + v1 ≤ 240 → r = -2) → r = rv := by
        by_cases h : 0 + v1 ≤ 240
        · exact ⟨-3, by decide, fun r hr => hr.2.1 h (fun x => hok ⟨h, x⟩)⟩
        · exact ⟨-2, by decide, fun r hr => hr.2.2 h⟩
      obtain ⟨rv, rv0, hrv⟩ := ref
      refine (lawW (B' := emp B) 0 0 rv hM ?_ hW (fun _ _ => rfl) (by decide) (fun M1 h1 => ?_)).mono (fun M' h => ⟨_, _, hW, emp_w hB, h⟩)
      · unfold f_X9_load
        refine .bind (.val (askInput_y hC.2.2.2.2.1 hn)) (fun z hz => ?_)
        subst hz
        refine .ifT rfl (.bind (c_refusal hB hC.2.2.2.2.1 hn (had := 0) (by omega)) (fun r hr => ?_))
        have er := hrv r hr
        unfold f_X9_load_K40
        exact .ifF (by omega) (.put fun M3 e3 => .ifF (by omega) (.ret ⟨rfl, fun _ => er, hC.emp hW e3, fun c i hc => (e3 c i).trans (if_neg (by omega))⟩))
      · refine mpre _ M1 h1 (fun M3 c1 c2 c3 c4 => ?_)
        exact .bind (m_refusal hB c4 hn (had := 0) (by omega)) (fun r hr => .ifF (by have := hrv r hr; omega) (.ret ⟨c3, fun _ => hrv r hr, c1, c2⟩))
  · refine (lawW 2 1 0 hM ?_ hW (fun _ _ => rfl) (by decide) (fun M1 h1 => ?_)).mono (fun M' h => ⟨T, B, hW, hB, h⟩)
    · unfold f_X9_load
      refine .bind (.val (askInput_n hC.2.2.2.2.1 hn)) (fun z hz => ?_)
      subst hz
      exact .ifF (by show ¬ (2 : Nat) = 0; decide) (.ret ⟨rfl, fun h => absurd h (by decide), hC, FrC.rf⟩)
    · unfold f_X10_load
      refine .put fun M2 e2 => ?_
      obtain ⟨a1, a2, a3⟩ := h1.put0 e2
      rw [show M2 84 16 = B.1 from a1.2.2.2.2.1.1]
      refine .bind (.val (isIn_n M2 hn)) (fun z hz => .ifT hz (.bind (throws_yes 1 (by decide) a3) (fun p ⟨p1, p2⟩ => .ifF (by omega) (.ret ?_))))
      obtain ⟨c1, c2, c3⟩ := a1.put0 p2
      exact ⟨c3, fun h => absurd h (by decide), c1, a2.trans c2⟩
