/-! ===== a script's orders are followed ===== -/
theorem c_mendF {T : Tx} {G : Sn} {B : Bx} {M : Mem} (hW : WT T) (hG : WG G) (h : CI T G B M) : Ok (f_X9_mendNow M) (fun M' => MdV G.1 T.1 M' ∧ M' 0 17 = 0 ∧ CI T G B M' ∧ FrC M M' ∧ ∀ c i, ¬ QC c i → M' c i = M c i) := by
  have hN := Nn_is hW.1
  have hR : RB7 (Rof G.1 T.1) := rl_bd hG.r10 T.1.b (-1)
  obtain ⟨w1, w2, w3, w4, w5, w6, w7, w8⟩ := hW.1.2.1
  have pd : M 14 5 = T.1.drop := h.1.2.2.2.1
  have pg : M 14 6 = T.1.give := h.1.2.2.2.2.1
  have pc : M 14 7 = T.1.chg := h.1.2.2.2.2.2.1
  have al := alp_bd (dr := T.1.drop) (gv := T.1.give) (by omega)
  unfold f_X9_mendNow
  refine .ifC (fun h0 => .ret ⟨h.2.2.2.2.2.2.2.2 h0, h0, h, FrC.rf, fun _ _ _ => rfl⟩) (fun h0 => ?_)
  refine .bind (Q := fun M1 => M1 66 13 = Al T.1 ∧ M1 66 14 = act T.1.drop T.1.give ∧ M1 66 15 = T.1.chg ∧ ∀ c i, ¬ (c = 66 ∧ (i = 13 ∨ i = 14 ∨ i = 15)) → M1 c i = M c i) ?_ (fun M1 ⟨a1, a2, a3, a4⟩ => ?_)
  · unfold f_X2_setPrices
    have go : ∀ (M1 : Mem) (x : Int), x = act T.1.drop T.1.give → (∀ b i, M1 b i = if b = 66 ∧ i = 14 then x else M b i) → Ok (lt1 (if (M1 14 6) < (M1 14 5) then M1 14 6 else M1 14 5) fun x29 => lt1 (up M1 66 13 x29) fun M32 => lt1 (up M32 66 15 (M32 14 7)) fun M40 => some M40) (fun M1 => M1 66 13 = Al T.1 ∧ M1 66 14 = act T.1.drop T.1.give ∧ M1 66 15 = T.1.chg ∧ ∀ c i, ¬ (c = 66 ∧ (i = 13 ∨ i = 14 ∨ i = 15)) → M1 c i = M c i) := by
      intro M1 x hx e1
      have b5 : M1 14 5 = T.1.drop := by rw [e1, if_neg (by omega)]; exact pd
      have b6 : M1 14 6 = T.1.give := by rw [e1, if_neg (by omega)]; exact pg
      rw [b5, b6]
      refine .let fun y ey => .put fun M2 e2 => ?_
      have b7 : M2 14 7 = T.1.chg := by rw [e2, if_neg (by omega), e1, if_neg (by omega)]; exact pc
      rw [b7]
      refine .put fun M3 e3 => .ret ⟨?_, ?_, ?_, fun c i hc => ?_⟩
      · rw [e3, if_neg (by omega), e2, if_pos ⟨rfl, rfl⟩, ey]; rfl
      · rw [e3, if_neg (by omega), e2, if_neg (by omega), e1, if_pos ⟨rfl, rfl⟩, hx]
      · rw [e3, if_pos ⟨rfl, rfl⟩]
      · rw [e3, if_neg (by omega), e2, if_neg (by omega), e1, if_neg (by omega)]
    refine .ifC (fun hg => .put fun M1 e1 => go M1 1 ?_ e1) (fun hg => .put fun M1 e1 => go M1 0 ?_ e1)
    · rw [pd, pg] at hg; unfold act; rw [if_pos hg]
    · rw [pd, pg] at hg; unfold act; rw [if_neg hg]
  · have f17 : M1 0 17 ≠ 0 := by rw [a4 0 17 (by omega)]; exact h0
    have h1 : CI T G B M1 := h.q hW (fun c i hc hq => a4 c i (by unfold QC at hq; omega)) ⟨fun h2 => (h.2.2.2.2.2.2.2.1 (by rw [← a4 0 16 (by omega)]; exact h2)).same (fun c i _ _ => a4 c i (by omega)), fun h2 => absurd h2 f17⟩
    refine .bind (c_readNow hW h1) (fun M2 ⟨r1, r2, r3, r4, r5⟩ => ?_)
    refine .bind (ccostOf_ok hN.2 hR (al := Al T.1) (ch := T.1.chg) al (by omega) 54 (Or.inl rfl) M2 r1.1 (fun p hp => (r1.2.2.2.2.2 p hp).2.1) (by rw [r5 66 13 (by unfold RZ; omega)]; exact a1) (by rw [r5 66 15 (by unfold RZ; omega)]; exact a3)) (fun p ⟨c1, c2, c3, c4⟩ => .put fun M3 e3 => ?_)
    have q1 : ∀ b q, ¬ CZ b q → ¬ (b = 66 ∧ q = 12) → M3 b q = M2 b q := fun b q hb hb2 => by rw [e3, if_neg hb2]; exact c4 b q hb
    have hH : CH (Rof G.1 T.1) (Nn T.1) (Al T.1) T.1.chg (act T.1.drop T.1.give) M3 := by
      refine ⟨⟨by rw [e3, if_neg (by omega)]; exact c2.1, fun k hk => by rw [e3, if_neg (by omega), e3, if_neg (by omega), e3, if_neg (by omega)]; exact c2.2 k hk⟩, ?_, ?_, ?_, fun j hj he k k0 k1 => by rw [e3, if_neg (by omega)]; exact c3 j hj he k k0 k1⟩
      · rw [q1 66 13 (by unfold CZ MZ; omega) (by omega), r5 66 13 (by unfold RZ; omega)]; exact a1
      · rw [q1 66 15 (by unfold CZ MZ; omega) (by omega), r5 66 15 (by unfold RZ; omega)]; exact a3
      · rw [q1 66 14 (by unfold CZ MZ; omega) (by omega), r5 66 14 (by unfold RZ; omega)]; exact a2
    refine .bind (chooseSteps_ok hN.2 hR al (by omega) (by unfold act; split <;> omega) M3 hH) (fun M4 ⟨s1, s2⟩ => .put fun M5 e5 => .ret ?_)
    have q5 : ∀ b q, ¬ (b = 0 ∧ q = 17) → ¬ SZ b q → M5 b q = M3 b q := fun b q hb hb2 => by rw [e5, if_neg hb]; exact s2 b q hb2
    have hMV : MdV G.1 T.1 M5 := by
      refine ⟨?_, s1.same (fun b q hb => by rw [e5, if_neg (by omega)]), ?_, ?_⟩
      · rw [q5 66 12 (by omega) (by unfold SZ; omega), e3, if_pos ⟨rfl, rfl⟩]; exact c1
      · rw [q5 66 13 (by omega) (by unfold SZ; omega)]; exact hH.2.1
      · rw [q5 66 15 (by omega) (by unfold SZ; omega)]; exact hH.2.2.1
    have q2 : ∀ b q, ¬ QC b q → M5 b q = M2 b q := fun b q hb => by
      unfold QC at hb
      rw [q5 b q (by omega) (by unfold SZ; omega), q1 b q (by unfold CZ MZ; omega) (by omega)]
    have q3 : ∀ b q, 54 ≤ b → b ≤ 58 → M5 b q = M2 b q := fun b q hb hb2 => by
      rw [q5 b q (by omega) (by unfold SZ; omega), q1 b q (by unfold CZ MZ; omega) (by omega)]
    refine ⟨hMV, by rw [e5, if_pos ⟨rfl, rfl⟩], r3.q hW (fun c i _ hq => q2 c i hq) ⟨fun _ => r1.same (fun c i g0 g1 => q3 c i g0 g1), fun _ => hMV⟩, fun c i hc => ?_, fun c i hq => ?_⟩
    · rw [q2 c i (by unfold QC; omega), r4 c i hc, a4 c i (by omega)]
    · rw [q2 c i hq]
      unfold QC at hq
      rw [r5 c i (by unfold RZ; omega), a4 c i (by omega)]
theorem m_laysF {T : Tx} {G : Sn} {B : Bx} {M : Mem} (hW : WT T) (hG : WG G) (h : MoI T G B M) : Ok (f_X10_laysRepair M) (fun p => MR T G p.2 ∧ MoI T G B p.2 ∧ ∀ c i, ¬ LRZ c i → p.2 c i = M c i) := by
  refine (laysRepair_ok hW.1 hG.r10 hG.2.1 M h.1 h.2.2.2.1.1).mono (fun p ⟨p1, p2, p3, p4⟩ => ⟨⟨p2, p3⟩, h.q (fun c i h0 h1 hq => p4 c i (by unfold QM at hq; unfold LRZ FZ; omega)), p4⟩)
def FrX (M M' : Mem) : Prop := ∀ (c : Nat) (i : Int), 84 ≤ c ∨ (3 ≤ c ∧ c ≤ 10) ∨ (17 ≤ c ∧ c ≤ 19) → M' c i = M c i
def FrY (M M' : Mem) : Prop := ∀ (c : Nat) (i : Int), c < 84 ∨ 105 ≤ c ∨ (c = 84 ∧ (i = 0 ∨ i = 40)) → M' c i = M c i
theorem FrX.trans {M M1 M2 : Mem} (h1 : FrX M M1) (h2 : FrX M1 M2) : FrX M M2 := fun c i h => (h2 c i h).trans (h1 c i h)
theorem FrY.trans {M M1 M2 : Mem} (h1 : FrY M M1) (h2 : FrY M1 M2) : FrY M M2 := fun c i h => (h2 c i h).trans (h1 c i h)
theorem c_edit {T : Tx} {G : Sn} {B : Bx} {M M1 : Mem} {P' : Pg} (hW : WT T) (h : CI T G B M) (hP : PgC M1 14 P') (fr : Fr3 M M1 14) : Ok (f_X9_textTouched M1) (fun M' => CI (P', T.2) G B M' ∧ FrX M M') := by
  refine (touch_ok M1).mono (fun M' ⟨t1, t2, t3⟩ => ⟨h.page hW (hP.same (fun i => t3 _ i (by omega)) (fun i => t3 _ i (by omega)) (fun i => t3 _ i (by omega))) (fun c i _ c1 c2 c3 hq => ?_) (CCa.due t1 t2), fun c i hc => ?_⟩)
  · rw [t3 c i (by unfold QC at hq; omega), fr c c1 c2 c3 i]
  · rw [t3 c i (by omega), fr c (by omega) (by omega) (by omega) i]
theorem m_edit {T : Tx} {G : Sn} {B : Bx} {M M1 : Mem} {P' : Pg} (h : MoI T G B M) (hP : PgM M1 90 0 P') (fr : Fr1 M M1 90) : MoI (P', T.2) G B M1 ∧ FrY M M1 := ⟨(h.page hP fr).1, fun c i hc => fr c (by omega) i⟩
def nm (v : Int) : Nat := if v = 3 then 3 else if v = 4 then 0 else if v = 5 then 1 else 2
def OQ (V : Nat → Int) (A : Nat → Nat → Int) (n : Nat) (M : Mem) : Prop := M 8 2 = n ∧ ∀ i : Nat, i < n → M 9 i = V i ∧ ∀ j : Nat, j < nm (V i) → M 10 ((3 * i + j : Nat) : Int) = A i j
def OM (V : Nat → Int) (A : Nat → Nat → Int) (n : Nat) (M : Mem) : Prop := M 84 40 = n ∧ ∀ i : Nat, i < n → M 105 i = V i ∧ ∀ j : Nat, j < nm (V i) → M (106 + j) i = A i j
def OW (V : Nat → Int) (A : Nat → Nat → Int) (n : Nat) : Prop := n ≤ 100 ∧ ∀ i : Nat, i < n → 0 ≤ V i ∧ V i ≤ 5 ∧ ∀ j : Nat, j < nm (V i) → 0 ≤ A i j ∧ A i j ≤ 999
theorem OQ.fr {V : Nat → Int} {A : Nat → Nat → Int} {n : Nat} {M M' : Mem} (h : OQ V A n M) (f : FrX M M') : OQ V A n M' := ⟨(f 8 2 (by omega)).trans h.1, fun i hi => ⟨(f 9 i (by omega)).trans (h.2 i hi).1, fun j hj => (f 10 _ (by omega)).trans ((h.2 i hi).2 j hj)⟩⟩
theorem OM.fr {V : Nat → Int} {A : Nat → Nat → Int} {n : Nat} {M M' : Mem} (h : OM V A n M) (f : FrY M M') : OM V A n M' := ⟨(f 84 40 (by omega)).trans h.1, fun i hi => ⟨(f 105 i (by omega)).trans (h.2 i hi).1, fun j hj => (f _ i (by omega)).trans ((h.2 i hi).2 j hj)⟩⟩
theorem numberOf_at {i j : Nat} {w : Int} (hi : i < 100) (hj : j < 3) (hw : w = j) (M : Mem) : f_X3_numberOf i w M = some (M 10 ((3 * i + j : Nat) : Int)) := by
  subst hw
  unfold f_X3_numberOf
  rw [if_neg (by omega), if_neg (by omega), if_neg (by omega), if_pos (by omega), w32_of (i := (i : Int) * 3) (by omega) (by omega), w32_of (by omega) (by omega), if_pos (by omega), show (i : Int) * 3 + (j : Int) = ((3 * i + j : Nat) : Int) by omega]
theorem verbOf_at {i : Nat} (hi : i < 100) (M : Mem) : f_X3_verbOf i M = some (M 9 i) := by
  unfold f_X3_verbOf
  rw [if_neg (by omega), if_neg (by omega), if_pos (by omega)]
theorem isRange_at {P : Pg} {M : Mem} (hP : PgM M 90 0 P) (f t : Int) : f_X10_isRange f t M = some (if f ≤ t ∧ t ≤ P.len then 1 else 0) := by
  unfold f_X10_isRange
  rw [show M 90 0 = P.len from hP.1]
  by_cases h1 : t < f
  · rw [if_pos h1, if_neg (by omega)]
  · by_cases h2 : P.len < t
    · rw [if_neg h1, if_pos h2, if_neg (by omega)]
    · rw [if_neg h1, if_neg h2, if_pos (by omega)]
theorem Both.vl {α β γ : Type} {x : Option α} {v w : α} {y : Option β} {f : α → Option γ} {R : γ → β → Prop} (e : x = some v) (hv : v = w) (h : Both (f w) y R) : Both (x.bind f) y R := by rw [e, hv]; exact h
theorem Both.vr {α β γ : Type} {x : Option α} {v w : α} {y : Option β} {f : α → Option γ} {R : β → γ → Prop} (e : x = some v) (hv : v = w) (h : Both y (f w) R) : Both y (x.bind f) R := by rw [e, hv]; exact h
/-- an order followed, or refused -/
def DoR (T : Tx) (G : Sn) (B : Bx) (Mc Mm : Mem) (a b : Int × Mem) : Prop := FrX Mc a.2 ∧ FrY Mm b.2 ∧ ((a.1 = 1 ∧ b.1 = 1 ∧ ∃ P' : Pg, Wf P' ∧ CI (P', T.2) G B a.2 ∧ MoI (P', T.2) G B b.2) ∨ (a.1 = 0 ∧ b.1 = 0 ∧ CI T G B a.2 ∧ MoI T G B b.2))
theorem do_no {T : Tx} {G : Sn} {B : Bx} {Mc Mm : Mem} (hC : CI T G B Mc) (hM : MoI T G B Mm) : DoR T G B Mc Mm (0, Mc) (0, Mm) := ⟨fun _ _ _ => rfl, fun _ _ _ => rfl, Or.inr ⟨rfl, rfl, hC, hM⟩⟩
theorem do_erase {T : Tx} {G : Sn} {B : Bx} {Mc Mm : Mem} (hW : WT T) (hC : CI T G B Mc) (hM : MoI T G B Mm) {f t : Int} (f0 : 0 ≤ f) (t0 : 0 ≤ t) : Both (f_X9_followErase f t Mc) ((f_X10_isRange f t Mm).bind fun p59 => if p59 = 0 then some ((0 : Int), Mm) else (f_X10_takesOut f t Mm).bind fun p68 => some (1, p68)) (DoR T G B Mc Mm) := by
  unfold f_X9_followErase
  have q0 : Mc 14 2 = T.1.len := hC.1.1
  by_cases h : f ≤ t ∧ t ≤ T.1.len
  · refine .vl (hasRange_ok 14 f t Mc) (if_pos (by omega)) (.vr (isRange_at hM.1 f t) (if_pos h) (.lF (by decide) (.rF (by decide) (.bl (takeOut_ok 14 f t Mc hC.1 hW.1 f0 h.1 h.2) (fun M1 ⟨a1, a2⟩ => .bl (c_edit hW hC a1 a2) (fun M2 ⟨b1, b2⟩ => .br (takesOut_ok f t Mm hM.1 hW.1 f0 h.1 h.2) (fun M3 ⟨d1, d2⟩ => .ret ?_)))))))
    obtain ⟨e1, e2⟩ := m_edit hM d1 d2
    exact ⟨b2, e2, Or.inl ⟨rfl, rfl, _, takeP_wf hW.1 f0 h.1 h.2, b1, e1⟩⟩
  · exact .vl (hasRange_ok 14 f t Mc) (if_neg (by omega)) (.vr (isRange_at hM.1 f t) (if_neg h) (.lT rfl (.rT rfl (.ret (do_no hC hM)))))
theorem do_put {T : Tx} {G : Sn} {B : Bx} {Mc Mm : Mem} (hW : WT T) (hC : CI T G B Mc) (hM : MoI T G B Mm) {a c : Int} (a0 : 0 ≤ a) : Both (f_X9_followPut a c Mc) (if (Mm 90 0) < a then some ((0 : Int), Mm) else (f_X10_canBe c Mm).bind fun p86 => if p86 = 0 then some (0, Mm) else if 240 ≤ (Mm 90 0) then some (0, Mm) else (f_X10_puts a c Mm).bind fun p107 => some (1, p107)) (DoR T G B Mc Mm) := by
  have l0 := hW.1.l0
  have l1 := hW.1.l1
  have p0 : Mm 90 0 = T.1.len := hM.1.1
  have q0 : Mc 14 2 = T.1.len := hC.1.1
  unfold f_X9_followPut
  rw [p0]
  by_cases h : a ≤ T.1.len
  · refine .vl (hasPlace_ok 14 a Mc) (if_pos (by omega)) (.lF (by decide) (.rF (by omega) (.bl (isTextByte_at c Mc) (fun z hz => .br (canBe_at c Mm) (fun w hw => ?_)))))
    by_cases hc : isTxt c
    · have z1 : z = 1 := hz.elim (fun x => x.1) (fun x => absurd hc x.2)
      have w1 : w = 1 := hw.elim (fun x => x.1) (fun x => absurd hc x.2)
      refine .lF (by omega) (.rF (by omega) ?_)
      have hr := hasRoom_ok 14 1 Mc (by omega) (by omega)
      by_cases hl : T.1.len + 1 ≤ 240
      · refine .vl hr (if_pos (by omega)) (.lF (by decide) (.rF (by omega) (.bl (putByte_ok 14 a c Mc hC.1 hW.1 a0 h hl) (fun M1 ⟨a1, a2⟩ => .bl (c_edit hW hC a1 a2) (fun M2 ⟨b1, b2⟩ => .br (puts_ok a c Mm hM.1 hW.1 a0 h hl) (fun M3 ⟨d1, d2⟩ => .ret ?_))))))
        obtain ⟨e1, e2⟩ := m_edit hM d1 d2
        exact ⟨b2, e2, Or.inl ⟨rfl, rfl, _, put1_wf hW.1 a0 h hl hc, b1, e1⟩⟩
      · exact .vl hr (if_neg (by omega)) (.lT rfl (.rT (by omega) (.ret (do_no hC hM))))
    · have z1 : z = 0 := hz.elim (fun x => absurd x.2 hc) (fun x => x.1)
      have w1 : w = 0 := hw.elim (fun x => absurd x.2 hc) (fun x => x.1)
      exact .lT z1 (.rT w1 (.ret (do_no hC hM)))
  · exact .vl (hasPlace_ok 14 a Mc) (if_neg (by omega)) (.lT rfl (.rT (by omega) (.ret (do_no hC hM))))
theorem do_swap {T : Tx} {G : Sn} {B : Bx} {Mc Mm : Mem} (hW : WT T) (hC : CI T G B Mc) (hM : MoI T G B Mm) {x y : Int} (x0 : 0 ≤ x) (y0 : 0 ≤ y) : Both (f_X9_followSwap x y Mc) (f_X10_swaps x y Mm) (DoR T G B Mc Mm) := by
  have l0 := hW.1.l0
  have l1 := hW.1.l1
  have p0 : Mm 90 0 = T.1.len := hM.1.1
  have q0 : Mc 14 2 = T.1.len := hC.1.1
  unfold f_X9_followSwap f_X10_swaps
  rw [p0]
  by_cases hx : x < T.1.len
  · by_cases hy : y < T.1.len
    · rw [w32_of (i := 14 + x) (by omega) (by omega), w32_of (i := 14 + y) (by omega) (by omega)]
      have bx : Mc (14 + 1) x = T.1.b x := hC.1.2.2.2.2.2.2.1 x x0 hx
      have by_ : Mc (14 + 1) y = T.1.b y := hC.1.2.2.2.2.2.2.1 y y0 hy
      have mx : Mm 90 (14 + x) = T.1.b x := by have := hM.1.2.2.2.2.2.2.1 x x0 hx; rw [show (0 : Int) + 14 + x = 14 + x by omega] at this; exact this
      have my : Mm 90 (14 + y) = T.1.b y := by have := hM.1.2.2.2.2.2.2.1 y y0 hy; rw [show (0 : Int) + 14 + y = 14 + y by omega] at this; exact this
      have w1 : Wf (setB T.1 x (T.1.b y)) := setB_wf hW.1 (hW.1.bt y y0 hy)
      have w2 : Wf (setB (setB T.1 x (T.1.b y)) y (T.1.b x)) := setB_wf w1 (hW.1.bt x x0 hx)
      refine .vl (hasByte_ok 14 x Mc) (if_pos (by omega)) (.lF (by decide) (.vl (hasByte_ok 14 y Mc) (if_pos (by omega)) (.lF (by decide) (.vl (pbyteAt_ok 14 x Mc (by omega)) ((if_pos (by omega)).trans bx) (.vl (pbyteAt_ok 14 y Mc (by omega)) ((if_pos (by omega)).trans by_) ?_)))))
      refine .bl (setByte_pg 14 x _ Mc hC.1 hW.1 x0 hx) (fun M1 ⟨a1, a2⟩ => .bl (setByte_pg 14 y _ M1 a1 w1 y0 hy) (fun M2 ⟨b1, b2⟩ => .bl (c_edit hW hC b1 (a2.trans b2)) (fun M3 ⟨d1, d2⟩ => .rF (by omega) (.rT hy (.rT (by omega) (.rl (.rT (by omega) ?_)))))))
      rw [mx, my]
      refine .pr fun M4 e4 => .pr fun M5 e5 => .ret ?_
      have g1 : PgM M4 90 0 (setB T.1 x (T.1.b y)) := hM.1.setB hW.1.m1 x0 e4
      have g2 : PgM M5 90 0 (setB (setB T.1 x (T.1.b y)) y (T.1.b x)) := g1.setB w1.m1 y0 e5
      obtain ⟨e1, e2⟩ := m_edit hM g2 (fun b hb i => by rw [e5, if_neg (by omega), e4, if_neg (by omega)])
      exact ⟨d2, e2, Or.inl ⟨rfl, rfl, _, w2, d1, e1⟩⟩
    · exact .vl (hasByte_ok 14 x Mc) (if_pos (by omega)) (.lF (by decide) (.vl (hasByte_ok 14 y Mc) (if_neg (by omega)) (.lT rfl (.rF (by omega) (.rF hy (.ret (do_no hC hM)))))))
  · exact .vl (hasByte_ok 14 x Mc) (if_neg (by omega)) (.lT rfl (.rT (by omega) (.ret (do_no hC hM))))
theorem hasKind_at {G : Sn} {M : Mem} (h : CSg G M) (k : Int) : f_X7_hasKind 11 k M = some (if 0 ≤ k ∧ k < G.2.1 then 1 else 0) := by
  unfold f_X7_hasKind
  rw [show M 11 2 = G.2.1 from h.2.1]
  by_cases h1 : k < 0
  · rw [if_pos h1, if_neg (by omega)]
  · by_cases h2 : G.2.1 ≤ k
    · rw [if_neg h1, if_pos h2, if_neg (by omega)]
    · rw [if_neg h1, if_neg h2, if_pos (by omega)]
theorem do_wrap {T : Tx} {G : Sn} {B : Bx} {Mc Mm : Mem} (hW : WT T) (hG : WG G) (hC : CI T G B Mc) (hM : MoI T G B Mm) {f t k : Int} (f0 : 0 ≤ f) (k0 : 0 ≤ k) : Both (f_X9_followWrap f t k Mc) ((f_X10_isRange f t Mm).bind fun p124 => if p124 = 0 then some ((0 : Int), Mm) else if (Mm 84 1) ≤ k then some (0, Mm) else if 240 < (w32 ((Mm 90 0) + 2)) then some (0, Mm) else (f_X10_wraps f t k Mm).bind fun p166 => some (1, p166)) (DoR T G B Mc Mm) := by
  have l0 := hW.1.l0
  have l1 := hW.1.l1
  have p0 : Mm 90 0 = T.1.len := hM.1.1
  have q0 : Mc 14 2 = T.1.len := hC.1.1
  have g1 : Mm 84 1 = G.2.1 := hM.2.2.2.1.2.1
  have g4 := hG.2.2.2.1
  unfold f_X9_followWrap
  rw [p0, g1, w32_of (i := T.1.len + 2) (by omega) (by omega)]
  by_cases h : f ≤ t ∧ t ≤ T.1.len
  · refine .vl (hasRange_ok 14 f t Mc) (if_pos (by omega)) (.vr (isRange_at hM.1 f t) (if_pos h) (.lF (by decide) (.rF (by decide) ?_)))
    by_cases hk : k < G.2.1
    · refine .vl (hasKind_at hC.2.2.2.1 k) (if_pos (by omega)) (.lF (by decide) (.rF (by omega) ?_))
      have hr := hasRoom_ok 14 2 Mc (by omega) (by omega)
      by_cases hl : T.1.len + 2 ≤ 240
      · refine .vl hr (if_pos (by omega)) (.lF (by decide) (.rF (by omega) ?_))
        have hrg : 0 ≤ f ∧ f ≤ t ∧ t ≤ T.1.len := by omega
        have hkk : 0 ≤ k ∧ k < G.2.1 := by omega
        obtain ⟨w2, w1⟩ := wrpP_wf hG hW.1 hrg hkk hl
        refine Both.of (P := fun a => a.1 = 1 ∧ CI (wrpP G T.1 f t k, T.2) G B a.2 ∧ FrX Mc a.2) (Q := fun b => b.1 = 1 ∧ MoI (wrpP G T.1 f t k, T.2) G B b.2 ∧ FrY Mm b.2) (.bind (Q := fun M' => CI (wrpP G T.1 f t k, T.2) G B M' ∧ FrX Mc M') ?_ (fun M' ⟨a, b⟩ => .ret ⟨rfl, a, b⟩)) (.bind (Q := fun M' => MoI (wrpP G T.1 f t k, T.2) G B M' ∧ FrY Mm M') ?_ (fun M' ⟨a, b⟩ => .ret ⟨rfl, a, b⟩)) (fun a b ⟨a1, a2, a3⟩ ⟨b1, b2, b3⟩ => ⟨a3, b3, Or.inl ⟨a1, b1, _, w2, a2, b2⟩⟩)
        · unfold f_X9_putPair
          refine .bind (.val (closingOf_at hG hC.2.2.2.1 hkk)) (fun x hx => ?_)
          subst hx
          refine .bind (putByte_ok 14 t _ Mc hC.1 hW.1 (by omega) (by omega) (by omega)) (fun M1 ⟨b1, b2⟩ => ?_)
          refine .bind (.val (openingOfS_at hG (hC.2.2.2.1.fr3 b2) hkk)) (fun x hx => ?_)
          subst hx
          refine .bind (putByte_ok 14 f _ M1 b1 w1 (by omega) (by show f ≤ T.1.len + 1; omega) (by show T.1.len + 1 + 1 ≤ 240; omega)) (fun M2 ⟨e1, e2⟩ => ?_)
          exact .bind (c_edit hW hC e1 (b2.trans e2)) (fun M3 h3 => .ret h3)
        · have sg : ∀ M : Mem, MSg G M → M 86 k = G.2.2 (2 * k + 1).toNat ∧ M 85 k = G.2.2 (2 * k).toNat := fun M hM => by
            have := hM.2.2 k.toNat (by omega)
            rw [show ((k.toNat : Nat) : Int) = k by omega] at this
            rw [show (2 * k + 1).toNat = 2 * k.toNat + 1 by omega, show (2 * k).toNat = 2 * k.toNat by omega]
            exact ⟨this.2, this.1⟩
          unfold f_X10_wraps
          rw [(sg Mm hM.2.2.2.1).1]
          refine .ifT (by omega) (.bind (puts_ok t _ Mm hM.1 hW.1 (by omega) (by omega) (by omega)) (fun M1 ⟨b1, b2⟩ => ?_))
          obtain ⟨c1, _⟩ := m_edit hM b1 b2
          rw [(sg M1 c1.2.2.2.1).2]
          refine .bind (puts_ok f _ M1 b1 w1 (by omega) (by show f ≤ T.1.len + 1; omega) (by show T.1.len + 1 + 1 ≤ 240; omega)) (fun M2 ⟨e1, e2⟩ => ?_)
          exact .ret (m_edit hM e1 (fun b hb i => (e2 b hb i).trans (b2 b hb i)))
      · exact .vl hr (if_neg (by omega)) (.lT rfl (.rT (by omega) (.ret (do_no hC hM))))
    · exact .vl (hasKind_at hC.2.2.2.1 k) (if_neg (by omega)) (.lT rfl (.rT (by omega) (.ret (do_no hC hM))))
  · exact .vl (hasRange_ok 14 f t Mc) (if_neg (by omega)) (.vr (isRange_at hM.1 f t) (if_neg h) (.lT rfl (.rT rfl (.ret (do_no hC hM)))))
theorem do_repair {T : Tx} {G : Sn} {B : Bx} {Mc Mm : Mem} (hW : WT T) (hG : WG G) (hC : CI T G B Mc) (hM : MoI T G B Mm) : Both ((f_X9_mendNow Mc).bind fun p102 => (f_X9_mendText p102).bind fun p107 => if p107.1 = 0 ∨ p107.1 = 1 then some (p107.1, p107.2) else none) ((f_X10_canRepair Mm).bind fun p174 => if p174.1 = 0 ∨ p174.1 = 1 then some (p174.1, p174.2) else none) (DoR T G B Mc Mm) := by
  have gb := gsm_bd G.1 T.1 (Kk G.1 T.1)
  have hK := Kk_le G.1 hW.1
  by_cases hl : T.1.len + gsm G.1 T.1 (Kk G.1 T.1) ≤ 240
  · have wR := RC_all hG hW.1 (Kk G.1 T.1) T.1 (Nat.le_refl _) (RC_start hW.1 hl)
    refine Both.of (P := fun a => a.1 = 1 ∧ CI (rpS G T.1 (Kk G.1 T.1) T.1, T.2) G B a.2 ∧ FrX Mc a.2) (Q := fun b => b.1 = 1 ∧ MoI (rpS G T.1 (Kk G.1 T.1) T.1, T.2) G B b.2 ∧ FrY Mm b.2) ?_ (fl_ok ?_ (fun b hb => Or.inr hb.1)) (fun a b ⟨a1, a2, a3⟩ ⟨b1, b2, b3⟩ => ⟨a3, b3, Or.inl ⟨a1, b1, _, wR, a2, b2⟩⟩)
    · refine .bind (c_mendF hW hG hC) (fun M1 ⟨m1, m2, m3, m4, m5⟩ => fl_ok ((mendText_ok hG hW.1 M1 m3.1 m3.2.2.2.1 m1).mono (fun r ⟨hr, _⟩ => ?_)) (fun r hr => Or.inr hr.1))
      obtain ⟨r1, r2, r3, r4, r5⟩ := hr hl
      refine ⟨r1, m3.page hW r2 (fun c i _ x1 x2 x3 hq => r5 c i x1 x2 x3 (by unfold QC at hq; omega)) (CCa.due r3 r4), fun c i hc => ?_⟩
      rw [r5 c i (by omega) (by omega) (by omega) (by omega), m5 c i (by unfold QC; omega)]
    · unfold f_X10_canRepair
      refine .bind (m_laysF hW hG hM) (fun p ⟨p2, p3, p4⟩ => .let fun x ex => .bind (.val (longBehind_at hW p2 p3.1.1)) (fun y hy => .ifT (by omega) ?_))
      have m26 : p.2 84 26 = Kk G.1 T.1 := p2.1.mg.1
      unfold f_X10_repairs
      refine .bind (Q := fun M' => MoI (rpS G T.1 (Kk G.1 T.1) T.1, T.2) G B M' ∧ FrY p.2 M') (.let fun u eu => ?_) (fun M' ⟨a, b⟩ => .ret ⟨rfl, a, fun c i hc => (b c i hc).trans (p4 c i (by unfold LRZ FZ; omega))⟩)
      rw [m26, w32_of (by omega) (by omega)] at eu
      exact (mr_L hW hG (Kk G.1 T.1) 4096 u p.2 T.1 (Nat.le_refl _) (by omega) eu (RC_start hW.1 hl) p3.1 p3.2.2.2.1 p2).mono (fun M' ⟨a, b⟩ => m_edit p3 a b)
  · refine Both.of (P := fun a => a.1 = 0 ∧ CI T G B a.2 ∧ FrX Mc a.2) (Q := fun b => b.1 = 0 ∧ MoI T G B b.2 ∧ FrY Mm b.2) ?_ (fl_ok ?_ (fun b hb => Or.inl hb.1)) (fun a b ⟨a1, a2, a3⟩ ⟨b1, b2, b3⟩ => ⟨a3, b3, Or.inr ⟨a1, b1, a2, b2⟩⟩)
    · refine .bind (c_mendF hW hG hC) (fun M1 ⟨m1, m2, m3, m4, m5⟩ => fl_ok ((mendText_ok hG hW.1 M1 m3.1 m3.2.2.2.1 m1).mono (fun r ⟨_, hr⟩ => ?_)) (fun r hr => Or.inl hr.1))
      obtain ⟨r1, r2⟩ := hr hl
      exact ⟨r1, by rw [r2]; exact m3, fun c i hc => by rw [r2, m5 c i (by unfold QC; omega)]⟩
    · unfold f_X10_canRepair
      exact .bind (m_laysF hW hG hM) (fun p ⟨p2, p3, p4⟩ => .let fun x ex => .bind (.val (longBehind_at hW p2 p3.1.1)) (fun y hy => .ifF (by omega) (.ret ⟨rfl, p3, fun c i hc => p4 c i (by unfold LRZ FZ; omega)⟩)))
theorem do_want {T : Tx} {G : Sn} {B : Bx} {Mc Mm : Mem} (hW : WT T) (hG : WG G) (hC : CI T G B Mc) (hM : MoI T G B Mm) (k : Int) : Both ((f_X9_readNow Mc).bind fun p112 => (f_X5_lones 54 p112).bind fun p115 => if p115 = k then some ((1 : Int), p112) else some (0, p112)) ((f_X10_findsPairs Mm).bind fun p179 => (f_X10_lones p179).bind fun p183 => if p183 = k then some ((1 : Int), p179) else some (0, p179)) (DoR T G B Mc Mm) := by
  refine .bl (c_readNow hW hC) (fun M1 ⟨r1, r2, r3, r4, r5⟩ => .br (m_find hW hG hM) (fun M2 ⟨b1, b2, b3, b4, b5⟩ => ?_))
  have fx : FrX Mc M1 := fun c i hc => r5 c i (by unfold RZ; omega)
  have fy : FrY Mm M2 := fun c i hc => by
    by_cases h0 : c = 84 ∧ i = 0
    · rw [h0.1, h0.2]; exact b4
    · exact b5 c i (by unfold QM; omega)
  unfold f_X5_lones
  rw [r1.2.1, r1.2.2.1, lones_val hG hW.1]
  refine .vl rfl rfl (.vr (lones_at b1.1) rfl ?_)
  by_cases h : sm (lnf (Rof G.1 T.1) (Pt G.1 T.1)) (Nn T.1) = k
  · exact .lT h (.rT h (.ret ⟨fx, fy, Or.inl ⟨rfl, rfl, T.1, hW.1, r3, b2⟩⟩))
  · exact .lF h (.rF h (.ret ⟨fx, fy, Or.inr ⟨rfl, rfl, r3, b2⟩⟩))
