/-! ===== unwrap, marks, colours, costs, undo, snapshots ===== -/
theorem law_25_ok {T : Tx} {G : Sn} {B : Bx} {M : Mem} (v1 : Int) (hW : WT T) (hG : WG G) (hC : CI T G B M) (hM : MoI T G B M) : Ok (f_law_25 v1 M) (fun M' => ∃ T', WT T' ∧ CI T' G B M' ∧ MoI T' G B M') := by
  have hN := Nn_is hW.1
  unfold f_law_25 f_L_unwrap
  by_cases hp : 0 ≤ v1 ∧ v1 < T.1.len
  · obtain ⟨p, rfl, hp2⟩ := at_place hW.1 hp
    by_cases ht : Pt G.1 T.1 p = -1
    · refine (lawW 3 2 0 hM ?_ hW (fun _ _ => rfl) (by decide) (fun M1 h1 => ?_)).mono (fun M' h => ⟨T, hW, h⟩)
      · unfold f_X9_unwrap
        refine .bind (.val (askByte_y hC.1 hp)) (fun z hz => ?_)
        subst hz
        refine .ifT rfl (.bind (askPaired_ok hW hC hp2) (fun r ⟨r0, r1, r2, r3, r4⟩ => ?_))
        rw [if_pos ht] at r0
        exact .ifF (by omega) (.ret ⟨r0, fun h => absurd h (by decide), r3, r4⟩)
      · unfold f_X10_unwrap
        refine .bind (m_noPair hW hG h1 hp2) (fun z ⟨b0, b1, b2, b3, b4⟩ => ?_)
        rw [if_pos ht] at b0 b1
        exact .ifF (by omega) (.ret ⟨b1, fun h => absurd h (by decide), b3, b4⟩)
    · have oi := opn_is (PS_of hG T.1) ht
      obtain ⟨c, e1, e2, e3, e4, e5⟩ := (PS_of hG T.1).mate (p := opn (Pt G.1 T.1) p) (by omega)
      have or' : Rof G.1 T.1 (opn (Pt G.1 T.1) p) ≠ -1 := ((PS_of hG T.1).2.2.1 _ c e1 (by omega)).1
      generalize ho : opn (Pt G.1 T.1) p = o at oi e1 e2 e4 e5 or'
      have w1 : Wf (takeP T.1 c ((c : Int) + 1)) := takeP_wf hW.1 (by omega) (by omega) (by omega)
      have l1 : (takeP T.1 c ((c : Int) + 1)).len = T.1.len - 1 := by show T.1.len - ((c : Int) + 1 - c) = _; omega
      have w2 : Wf (takeP (takeP T.1 c ((c : Int) + 1)) o ((o : Int) + 1)) := takeP_wf w1 (by omega) (by omega) (by omega)
      have hW' : WT (takeP (takeP T.1 c ((c : Int) + 1)) o ((o : Int) + 1), (pushT T).2) := (pushT_w hW).page w2
      refine (lawW (T' := (takeP (takeP T.1 c ((c : Int) + 1)) o ((o : Int) + 1), (pushT T).2)) 0 0 (takeP (takeP T.1 c ((c : Int) + 1)) o ((o : Int) + 1)).len hM ?_ hW' (fun _ _ => rfl) (by decide) (fun M1 h1 => ?_)).mono (fun M' h => ⟨_, hW', h⟩)
      · unfold f_X9_unwrap
        refine .bind (.val (askByte_y hC.1 hp)) (fun z hz => ?_)
        subst hz
        refine .ifT rfl (.bind (askPaired_ok hW hC hp2) (fun r ⟨r0, r1, r2, r3, r4⟩ => ?_))
        rw [if_neg ht] at r0
        refine .ifT r0 (.bind (.val (readNow_twice r2)) (fun M2 hM2 => ?_))
        subst hM2
        refine .bind (.val (openingOf_at hN.2 (PS_of hG T.1) r1.cp hp2 ht)) (fun u hu => ?_)
        rw [ho] at hu
        subst hu
        refine .bind (.val (readNow_twice r2)) (fun M2 hM2 => ?_)
        subst hM2
        refine .bind (.val (partnerOf_at hN.2 r1.cp oi.2)) (fun u hu => ?_)
        rw [e1] at hu
        subst hu
        rw [w32_of (i := (c : Int) + 1) (by omega) (by omega), w32_of (i := (o : Int) + 1) (by omega) (by omega)]
        refine .bind (c_begin hW r3) (fun M1 ⟨a1, a2, a3, a4⟩ => .bind (takeOut_ok 14 c _ M1 a1.1 hW.1 (by omega) (by omega) (by show (c : Int) + 1 ≤ T.1.len; omega)) (fun M2 ⟨b1, b2⟩ => ?_))
        obtain ⟨c1, c2, c3, c4⟩ := a1.pageD (pushT_w hW) b1 b2 a3 a4
        refine .bind (takeOut_ok 14 o _ M2 b1 w1 (by omega) (by omega) (by show (o : Int) + 1 ≤ (takeP T.1 c ((c : Int) + 1)).len; omega)) (fun M3 ⟨d1, d2⟩ => ?_)
        obtain ⟨f1, f2, f3, f4⟩ := c1.pageD ((pushT_w hW).page w1) d1 d2 c3 c4
        exact .ret ⟨rfl, fun _ => d1.1, f1, ((r4.trans a2).trans c2).trans f2⟩
      · unfold f_X10_unwrap
        refine .bind (m_noPair hW hG h1 hp2) (fun z ⟨b0, b1, b2, b3, b4⟩ => ?_)
        rw [if_neg ht] at b0 b1
        have bo := nb_bd (Rof G.1 T.1) o
        have lo := nb_lt oi.2 or'
        have bN := nb_bd (Rof G.1 T.1) (Nn T.1)
        refine .ifT b0 (.bind (.val (pairAt_at b2.1 hp2 ht)) (fun u hu => ?_))
        rw [ho] at hu
        subst hu
        refine .ifT (by omega) (.let fun x ex => ?_)
        rw [(b2.1.2.2.2.1.2 o oi.2 or').1] at ex
        subst ex
        refine .bind (.val (end_at b2.1 oi.2 or' (by omega))) (fun y hy => ?_)
        rw [e1] at hy
        subst hy
        rw [w32_of (i := (c : Int) + 1) (by omega) (by omega), w32_of (i := (o : Int) + 1) (by omega) (by omega)]
        refine .bind (m_keeps hW b3) (fun M3 ⟨k1, k2, k3, k4⟩ => .bind (takesOut_ok c _ M3 k1.1 hW.1 (by omega) (by omega) (by show (c : Int) + 1 ≤ T.1.len; omega)) (fun M4 ⟨c1, c2⟩ => ?_))
        obtain ⟨d1, d2, d3⟩ := k1.page c1 c2
        refine .bind (takesOut_ok o _ M4 c1 w1 (by omega) (by omega) (by show (o : Int) + 1 ≤ (takeP T.1 c ((c : Int) + 1)).len; omega)) (fun M5 ⟨f1, f2⟩ => ?_)
        obtain ⟨g1, g2, g3⟩ := d1.page f1 f2
        exact .ret ⟨g3.trans (d3.trans (k3.trans b1)), fun _ => f1.1, g1, ((b4.trans k2).trans d2).trans g2⟩
  · refine (lawW 1 1 0 hM ?_ hW (fun _ _ => rfl) (by decide) (fun M1 h1 => ?_)).mono (fun M' h => ⟨T, hW, h⟩)
    · unfold f_X9_unwrap
      refine .bind (.val (askByte_n hC.1 hp)) (fun z hz => ?_)
      subst hz
      exact .ifF (by show ¬ (1 : Nat) = 0; decide) (.ret ⟨rfl, fun h => absurd h (by decide), hC, FrC.rf⟩)
    · unfold f_X10_unwrap f_X10_noPair
      refine .bind (Q := fun z => z.1 = 1 ∧ z.2 84 0 = 1 ∧ MoI T G B z.2 ∧ FrM M1 z.2) (.bind (m_noPlace hW hG h1 v1) (fun z ⟨b0, b1, b2, b3, b4⟩ => ?_)) (fun z ⟨b0, b1, b3, b4⟩ => .ifF (by omega) (.ret ⟨b1, fun h => absurd h (by decide), b3, b4⟩))
      rw [if_neg hp] at b0 b1
      exact .ifF (by omega) (.ret ⟨rfl, b1, b3, b4⟩)
/-! marks -/
theorem askPlace_y {P : Pg} {M : Mem} (hP : PgC M 14 P) {v : Int} (h : 0 ≤ v ∧ v ≤ P.len) : f_X9_askPlace v M = some (0, 0, M) := by
  unfold f_X9_askPlace
  rw [hasPlace_ok, if_pos (by rw [hP.1]; exact h)]
  rfl
theorem askPlace_n {P : Pg} {M : Mem} (hP : PgC M 14 P) {v : Int} (h : ¬ (0 ≤ v ∧ v ≤ P.len)) : f_X9_askPlace v M = some (1, 0, M) := by
  unfold f_X9_askPlace
  rw [hasPlace_ok, if_neg (by rw [hP.1]; exact h)]
  rfl
/-- a page whose text and prices are the same keeps what is known -/
theorem CI.pageK {T : Tx} {G : Sn} {B : Bx} {M M' : Mem} {P' : Pg} (hW : WT T) (h : CI T G B M) (hP : PgC M' 14 P') (fr : Fr3 M M' 14) (e1 : RV G.1 T.1 = RV G.1 P') (e2 : MdV G.1 T.1 = MdV G.1 P') : CI (P', T.2) G B M' ∧ FrC M M' := by
  refine ⟨h.page hW hP (fun c i _ c1 c2 c3 _ => fr c c1 c2 c3 i) ⟨fun x => ?_, fun x => ?_⟩, fun c i hc => fr c (by omega) (by omega) (by omega) i⟩
  · rw [← e1]
    exact (h.2.2.2.2.2.2.2.1 (by rw [← fr 0 (by omega) (by omega) (by omega) 16]; exact x)).same (fun c i _ _ => fr c (by omega) (by omega) (by omega) i)
  · rw [← e2]
    exact (h.2.2.2.2.2.2.2.2 (by rw [← fr 0 (by omega) (by omega) (by omega) 17]; exact x)).same (fun c i _ => fr c (by omega) (by omega) (by omega) i)
theorem law_27_ok {T : Tx} {G : Sn} {B : Bx} {M : Mem} (v1 : Int) (hW : WT T) (hC : CI T G B M) (hM : MoI T G B M) : Ok (f_law_27 v1 M) (fun M' => ∃ T', WT T' ∧ CI T' G B M' ∧ MoI T' G B M') := by
  have m0 := hW.1.m0
  have m1 := hW.1.m1
  unfold f_law_27 f_L_mark
  by_cases hv : 0 ≤ v1 ∧ v1 ≤ T.1.len
  · by_cases hm : T.1.mk < 8
    · have hW' : WT (addM T.1 v1, (pushT T).2) := (pushT_w hW).page (addM_wf hW.1 hv.1 hv.2 hm)
      refine (lawW (T' := (addM T.1 v1, (pushT T).2)) 0 0 T.1.mk hM ?_ hW' (fun _ _ => rfl) (by decide) (fun M1 h1 => ?_)).mono (fun M' h => ⟨_, hW', h⟩)
      · unfold f_X9_mark
        refine .bind (.val (askPlace_y hC.1 hv)) (fun z hz => ?_)
        subst hz
        refine .ifT rfl (.ifT (by show M 14 3 < 8; rw [hC.1.2.1]; exact hm) (.bind (c_keep hW hC) (fun M1 ⟨a1, a2, a3⟩ => .bind (addMark_ok 14 v1 M1 a1.1 hW.1 hm) (fun M2 ⟨b1, b2⟩ => ?_))))
        obtain ⟨c1, c2⟩ := a1.pageK (pushT_w hW) b1 b2 rfl rfl
        refine .ret ⟨rfl, fun _ => ?_, c1, a2.trans c2⟩
        have e : M2 14 3 = T.1.mk + 1 := b1.2.1
        show w32 (M2 14 3 - 1) = _
        rw [e, w32_of (by omega) (by omega)]; omega
      · unfold f_X10_mark
        refine .put fun M2 e2 => ?_
        obtain ⟨a1, a2, a3⟩ := h1.put0 e2
        rw [show M2 90 0 = T.1.len from a1.1.1]
        refine .bind (.val (isIn_y M2 hv)) (fun z hz => .ifF (by omega) (.bind (.val (throws_no 1 a3)) (fun p hp => ?_)))
        subst hp
        refine .ifT rfl (.ifF (by show ¬ M2 90 1 = 8; rw [show M2 90 1 = T.1.mk from a1.1.2.1]; omega) (.bind (m_keeps hW a1) (fun M3 ⟨b1, b2, b3, b4⟩ => ?_)))
        rw [show M3 90 1 = T.1.mk from b1.1.2.1, w32_of (i := 2 + T.1.mk) (by omega) (by omega)]
        refine .ifT (by omega) (.put fun M4 e4 => ?_)
        rw [show M4 90 1 = T.1.mk by rw [e4, if_neg (by omega)]; exact b1.1.2.1, w32_of (i := T.1.mk + 1) (by omega) (by omega)]
        refine .put fun M5 e5 => .ret ?_
        have hP : PgM M5 90 0 (addM T.1 v1) := by
          obtain ⟨q1, q2, q3, q4, q5, q6, q7, q8⟩ := b1.1
          refine ⟨?_, ?_, ?_, ?_, ?_, ?_, fun p p0 p1 => ?_, fun k k0 k1 => ?_⟩
          · rw [e5, if_neg (by omega), e4, if_neg (by omega)]; exact q1
          · rw [e5, if_pos (by omega)]; rfl
          · rw [e5, if_neg (by omega), e4, if_neg (by omega)]; exact q3
          · rw [e5, if_neg (by omega), e4, if_neg (by omega)]; exact q4
          · rw [e5, if_neg (by omega), e4, if_neg (by omega)]; exact q5
          · rw [e5, if_neg (by omega), e4, if_neg (by omega)]; exact q6
          · rw [e5, if_neg (by omega), e4, if_neg (by omega)]; exact q7 p p0 p1
          · have k1 : k < T.1.mk + 1 := k1
            show _ = if k = T.1.mk then v1 else T.1.m k
            rw [e5, if_neg (by omega), e4]
            by_cases h : k = T.1.mk
            · rw [if_pos (by omega), if_pos h]
            · rw [if_neg (by omega), if_neg h]; exact q8 k k0 (by show k < T.1.mk; omega)
        obtain ⟨d1, d2, d3⟩ := b1.page hP (fun c hc i => by rw [e5, if_neg (by omega), e4, if_neg (by omega)])
        refine ⟨d3.trans (b3.trans a3), fun _ => ?_, d1, (a2.trans b2).trans d2⟩
        show w32 (M5 90 1 - 1) = _
        rw [show M5 90 1 = T.1.mk + 1 from hP.2.1, w32_of (by omega) (by omega)]; omega
    · refine (lawW 0 0 (-2) hM ?_ hW (fun _ _ => rfl) (by decide) (fun M1 h1 => ?_)).mono (fun M' h => ⟨T, hW, h⟩)
      · unfold f_X9_mark
        refine .bind (.val (askPlace_y hC.1 hv)) (fun z hz => ?_)
        subst hz
        exact .ifT rfl (.ifF (by show ¬ M 14 3 < 8; rw [hC.1.2.1]; exact hm) (.ret ⟨rfl, fun _ => rfl, hC, FrC.rf⟩))
      · unfold f_X10_mark
        refine .put fun M2 e2 => ?_
        obtain ⟨a1, a2, a3⟩ := h1.put0 e2
        rw [show M2 90 0 = T.1.len from a1.1.1]
        refine .bind (.val (isIn_y M2 hv)) (fun z hz => .ifF (by omega) (.bind (.val (throws_no 1 a3)) (fun p hp => ?_)))
        subst hp
        exact .ifT rfl (.ifT (by show M2 90 1 = 8; rw [show M2 90 1 = T.1.mk from a1.1.2.1]; omega) (.ret ⟨a3, fun _ => rfl, a1, a2⟩))
  · refine (lawW 1 1 0 hM ?_ hW (fun _ _ => rfl) (by decide) (fun M1 h1 => ?_)).mono (fun M' h => ⟨T, hW, h⟩)
    · unfold f_X9_mark
      refine .bind (.val (askPlace_n hC.1 hv)) (fun z hz => ?_)
      subst hz
      exact .ifF (by show ¬ (1 : Nat) = 0; decide) (.ret ⟨rfl, fun h => absurd h (by decide), hC, FrC.rf⟩)
    · unfold f_X10_mark
      refine .put fun M2 e2 => ?_
      obtain ⟨a1, a2, a3⟩ := h1.put0 e2
      rw [show M2 90 0 = T.1.len from a1.1.1]
      refine .bind (.val (isIn_n M2 hv)) (fun z hz => .ifT hz (.bind (throws_yes 1 (by decide) a3) (fun p ⟨p1, p2⟩ => .ifF (by omega) (.ret ?_))))
      obtain ⟨c1, c2, c3⟩ := a1.put0 p2
      exact ⟨c3, fun h => absurd h (by decide), c1, a2.trans c2⟩
theorem unmark_L_ok (v2 : Int) : ∀ (r fuel : Nat) (k : Int) (M : Mem), (M 90 1 - k).toNat = r → r < fuel → 0 ≤ k → k ≤ M 90 1 → M 90 1 ≤ 8 → Ok (f_X10_unmark_L61 fuel v2 k M) (fun q => q.1 = v2 ∧ ∀ b i, q.2 b i = if b = 90 ∧ 2 + k ≤ i ∧ i < 2 + M 90 1 then M 90 (i + 1) else M b i) := by
  intro r
  induction r with
  | zero =>
    intro fuel k M hr hf hk hk1 h8
    obtain ⟨fuel, rfl⟩ : ∃ f, fuel = f + 1 := ⟨fuel - 1, by omega⟩
    rw [f_X10_unmark_L61]
    refine .ifT (by omega) (.ret ⟨rfl, fun b i => ?_⟩)
    rw [if_neg (by omega)]
  | succ r ih =>
    intro fuel k M hr hf hk hk1 h8
    obtain ⟨fuel, rfl⟩ : ∃ f, fuel = f + 1 := ⟨fuel - 1, by omega⟩
    rw [f_X10_unmark_L61, w32_of (i := 2 + k) (by omega) (by omega), w32_of (i := 2 + k + 1) (by omega) (by omega)]
    refine .ifF (by omega) (.ifT (by omega) (.ifT (by omega) (.put fun M1 e1 => .let fun u eu => ?_)))
    rw [w32_of (by omega) (by omega)] at eu
    subst eu
    have o1 : M1 90 1 = M 90 1 := by rw [e1, if_neg (by omega)]
    refine (ih fuel (k + 1) M1 (by omega) (by omega) (by omega) (by omega) (by omega)).mono (fun q ⟨q1, q2⟩ => ⟨q1, fun b i => ?_⟩)
    rw [q2, o1]
    by_cases hi : i = 2 + k
    · rw [if_neg (by omega), e1]
      by_cases hb : b = 90
      · rw [if_pos ⟨hb, hi⟩, if_pos (by omega), show i + 1 = 2 + k + 1 by omega]
      · rw [if_neg (by omega), if_neg (by omega)]
    · rw [e1 b i, if_neg (c := b = 90 ∧ i = 2 + k) (by omega)]
      by_cases hx : b = 90 ∧ 2 + k ≤ i ∧ i < 2 + M 90 1
      · rw [if_pos hx, if_pos (by omega), e1, if_neg (by omega)]
      · rw [if_neg hx, if_neg (by omega)]
theorem law_28_ok {T : Tx} {G : Sn} {B : Bx} {M : Mem} (v1 : Int) (hW : WT T) (hC : CI T G B M) (hM : MoI T G B M) : Ok (f_law_28 v1 M) (fun M' => ∃ T', WT T' ∧ CI T' G B M' ∧ MoI T' G B M') := by
  have m0 := hW.1.m0
  have m1 := hW.1.m1
  have l1 := hW.1.l1
  unfold f_law_28 f_L_unmark
  by_cases hv : 0 ≤ v1 ∧ v1 < T.1.mk
  · have hW' : WT (remM T.1 v1, (pushT T).2) := (pushT_w hW).page (remM_wf hW.1 hv.1 hv.2)
    refine (lawW (T' := (remM T.1 v1, (pushT T).2)) 0 0 (T.1.m v1) hM ?_ hW' (fun _ _ => rfl) (by decide) (fun M1 h1 => ?_)).mono (fun M' h => ⟨_, hW', h⟩)
    · unfold f_X9_unmark
      refine .bind (.val (askMark_y hC.1 hv)) (fun z hz => ?_)
      subst hz
      refine .ifT rfl (.bind (.val (placeOfMark_at hW.1 hC.1 hv)) (fun x hx => .bind (c_keep hW hC) (fun M1 ⟨a1, a2, a3⟩ => .bind (removeMark_ok 14 v1 M1 a1.1 hW.1 hv.1 hv.2) (fun M2 ⟨b1, b2⟩ => ?_))))
      obtain ⟨c1, c2⟩ := a1.pageK (pushT_w hW) b1 b2 rfl rfl
      exact .ret ⟨rfl, fun _ => hx, c1, a2.trans c2⟩
    · unfold f_X10_unmark
      refine .put fun M2 e2 => ?_
      obtain ⟨a1, a2, a3⟩ := h1.put0 e2
      rw [show M2 90 1 = T.1.mk from a1.1.2.1, w32_of (i := T.1.mk - 1) (by omega) (by omega), w32_of (i := 2 + v1) (by omega) (by omega)]
      refine .bind (.val (isIn_y M2 (by omega))) (fun z hz => .ifF (by omega) (.bind (.val (throws_no 1 a3)) (fun p hp => ?_)))
      subst hp
      refine .ifT rfl (.bind (m_keeps hW a1) (fun M3 ⟨b1, b2, b3, b4⟩ => .ifT (by omega) (.let fun x ex => ?_)))
      have hx : x = T.1.m v1 := by
        have := b1.1.2.2.2.2.2.2.2 v1 hv.1 hv.2
        rw [Int.zero_add] at this
        rw [ex]; exact this
      rw [show M3 90 1 = T.1.mk from b1.1.2.1, w32_of (i := T.1.mk - 1) (by omega) (by omega)]
      refine .put fun M4 e4 => ?_
      have o1 : M4 90 1 = T.1.mk - 1 := by rw [e4, if_pos ⟨rfl, rfl⟩]
      refine (unmark_L_ok x (M4 90 1 - v1).toNat 4096 v1 M4 rfl (by omega) hv.1 (by omega) (by omega)).mono (fun q ⟨q1, q2⟩ => ?_)
      rw [o1] at q2
      have hP : PgM q.2 90 0 (remM T.1 v1) := by
        obtain ⟨z1, z2, z3, z4, z5, z6, z7, z8⟩ := b1.1
        refine ⟨?_, ?_, ?_, ?_, ?_, ?_, fun p p0 p1 => ?_, fun k k0 k1 => ?_⟩
        · rw [q2, if_neg (by omega), e4, if_neg (by omega)]; exact z1
        · rw [q2, if_neg (by omega), e4, if_pos (by omega)]; rfl
        · rw [q2, if_neg (by omega), e4, if_neg (by omega)]; exact z3
        · rw [q2, if_neg (by omega), e4, if_neg (by omega)]; exact z4
        · rw [q2, if_neg (by omega), e4, if_neg (by omega)]; exact z5
        · rw [q2, if_neg (by omega), e4, if_neg (by omega)]; exact z6
        · rw [q2, if_neg (by omega), e4, if_neg (by omega)]; exact z7 p p0 p1
        · have k1 : k < T.1.mk - 1 := k1
          show _ = if k < v1 then T.1.m k else T.1.m (k + 1)
          rw [q2]
          by_cases h : k < v1
          · rw [if_neg (by omega), if_pos h, e4, if_neg (by omega)]; exact z8 k k0 (by show k < T.1.mk; omega)
          · rw [if_pos (by omega), if_neg h, e4, if_neg (by omega), show (0 : Int) + 2 + k + 1 = 0 + 2 + (k + 1) by omega]; exact z8 (k + 1) (by omega) (by show k + 1 < T.1.mk; omega)
      obtain ⟨d1, d2, d3⟩ := b1.page hP (fun c hc i => by rw [q2, if_neg (by omega), e4, if_neg (by omega)])
      exact ⟨d3.trans (b3.trans a3), fun _ => q1.trans hx, d1, (a2.trans b2).trans d2⟩
  · refine (lawW 1 1 0 hM ?_ hW (fun _ _ => rfl) (by decide) (fun M1 h1 => ?_)).mono (fun M' h => ⟨T, hW, h⟩)
    · unfold f_X9_unmark
      refine .bind (.val (askMark_n hC.1 hv)) (fun z hz => ?_)
      subst hz
      exact .ifF (by show ¬ (1 : Nat) = 0; decide) (.ret ⟨rfl, fun h => absurd h (by decide), hC, FrC.rf⟩)
    · unfold f_X10_unmark
      refine .put fun M2 e2 => ?_
      obtain ⟨a1, a2, a3⟩ := h1.put0 e2
      rw [show M2 90 1 = T.1.mk from a1.1.2.1, w32_of (i := T.1.mk - 1) (by omega) (by omega)]
      refine .bind (.val (isIn_n M2 (by omega))) (fun z hz => .ifT hz (.bind (throws_yes 1 (by decide) a3) (fun p ⟨p1, p2⟩ => .ifF (by omega) (.ret ?_))))
      obtain ⟨c1, c2, c3⟩ := a1.put0 p2
      exact ⟨c3, fun h => absurd h (by decide), c1, a2.trans c2⟩
/-! colours and costs -/
def setCol (P : Pg) (c : Int) : Pg := (P.len, P.mk, c, P.drop, P.give, P.chg, P.b, P.m)
def setPr (P : Pg) (d g c : Int) : Pg := (P.len, P.mk, P.col, d, g, c, P.b, P.m)
theorem law_29_ok {T : Tx} {G : Sn} {B : Bx} {M : Mem} (v1 : Int) (hW : WT T) (hC : CI T G B M) (hM : MoI T G B M) : Ok (f_law_29 v1 M) (fun M' => ∃ T', WT T' ∧ CI T' G B M' ∧ MoI T' G B M') := by
  unfold f_law_29 f_L_setColours
  by_cases hv : 1 ≤ v1 ∧ v1 ≤ 9
  · have hW' : WT (setCol T.1 v1, (pushT T).2) := (pushT_w hW).page ⟨hW.1.1, ⟨hv.1, hv.2, hW.1.2.1.2.2⟩, hW.1.2.2⟩
    refine (lawW (T' := (setCol T.1 v1, (pushT T).2)) 0 0 T.1.col hM ?_ hW' (fun _ _ => rfl) (by decide) (fun M1 h1 => ?_)).mono (fun M' h => ⟨_, hW', h⟩)
    · unfold f_X9_setColours
      refine .ifF (by omega) (.ifT hv.2 (.let fun x ex => .bind (c_keep hW hC) (fun M1 ⟨a1, a2, a3⟩ => .put fun M2 e2 => .ret ?_)))
      have hP : PgC M2 14 (setCol T.1 v1) := by
        obtain ⟨q1, q2, q3, q4, q5, q6, q7, q8⟩ := a1.1
        refine ⟨?_, ?_, ?_, ?_, ?_, ?_, fun p p0 p1 => ?_, fun k k0 k1 => ?_⟩
        · rw [e2, if_neg (by omega)]; exact q1
        · rw [e2, if_neg (by omega)]; exact q2
        · rw [e2, if_pos ⟨rfl, rfl⟩]; rfl
        · rw [e2, if_neg (by omega)]; exact q4
        · rw [e2, if_neg (by omega)]; exact q5
        · rw [e2, if_neg (by omega)]; exact q6
        · rw [e2, if_neg (by omega)]; exact q7 p p0 p1
        · rw [e2, if_neg (by omega)]; exact q8 k k0 k1
      obtain ⟨c1, c2⟩ := a1.pageK (pushT_w hW) hP (fun c c1 _ _ i => by rw [e2, if_neg (by omega)]) rfl rfl
      exact ⟨rfl, fun _ => ex.trans hC.1.2.2.1, c1, a2.trans c2⟩
    · unfold f_X10_setColours
      refine .put fun M2 e2 => ?_
      obtain ⟨a1, a2, a3⟩ := h1.put0 e2
      refine .bind (.val (isIn_y M2 hv)) (fun z hz => .ifF (by omega) (.bind (.val (throws_no 1 a3)) (fun p hp => ?_)))
      subst hp
      refine .ifT rfl (.bind (m_keeps hW a1) (fun M3 ⟨b1, b2, b3, b4⟩ => .let fun x ex => .put fun M4 e4 => .ret ?_))
      have hP : PgM M4 90 0 (setCol T.1 v1) := by
        obtain ⟨q1, q2, q3, q4, q5, q6, q7, q8⟩ := b1.1
        have m1 := hW.1.m1
        refine ⟨?_, ?_, ?_, ?_, ?_, ?_, fun p p0 p1 => ?_, fun k k0 k1 => ?_⟩
        · rw [e4, if_neg (by omega)]; exact q1
        · rw [e4, if_neg (by omega)]; exact q2
        · rw [e4, if_pos (by omega)]; rfl
        · rw [e4, if_neg (by omega)]; exact q4
        · rw [e4, if_neg (by omega)]; exact q5
        · rw [e4, if_neg (by omega)]; exact q6
        · rw [e4, if_neg (by omega)]; exact q7 p p0 p1
        · have k1 : k < T.1.mk := k1
          rw [e4, if_neg (by omega)]; exact q8 k k0 k1
      obtain ⟨d1, d2, d3⟩ := b1.page hP (fun c hc i => by rw [e4, if_neg (by omega)])
      exact ⟨d3.trans (b3.trans a3), fun _ => ex.trans b1.1.2.2.1, d1, (a2.trans b2).trans d2⟩
  · refine (lawW 2 1 0 hM ?_ hW (fun _ _ => rfl) (by decide) (fun M1 h1 => ?_)).mono (fun M' h => ⟨T, hW, h⟩)
    · unfold f_X9_setColours
      exact .ifC (fun _ => .ret ⟨rfl, fun h => absurd h (by decide), hC, FrC.rf⟩) (fun _ => .ifF (by omega) (.ret ⟨rfl, fun h => absurd h (by decide), hC, FrC.rf⟩))
    · unfold f_X10_setColours
      refine .put fun M2 e2 => ?_
      obtain ⟨a1, a2, a3⟩ := h1.put0 e2
      refine .bind (.val (isIn_n M2 hv)) (fun z hz => .ifT hz (.bind (throws_yes 1 (by decide) a3) (fun p ⟨p1, p2⟩ => .ifF (by omega) (.ret ?_))))
      obtain ⟨c1, c2, c3⟩ := a1.put0 p2
      exact ⟨c3, fun h => absurd h (by decide), c1, a2.trans c2⟩
theorem isCost_at (v : Int) (M : Mem) : f_X9_isCost v M = some (if 1 ≤ v ∧ v ≤ 99 then 1 else 0) := by
  unfold f_X9_isCost
  by_cases h : v < 1
  · rw [if_pos h, if_neg (by omega)]
  · rw [if_neg h]
    by_cases h2 : 99 < v
    · rw [if_pos h2, if_neg (by omega)]
    · rw [if_neg h2, if_pos (by omega)]
theorem isCost_y {v : Int} (M : Mem) (h : 1 ≤ v ∧ v ≤ 99) : f_X9_isCost v M = some 1 := by rw [isCost_at, if_pos h]
theorem isCost_n {v : Int} (M : Mem) (h : ¬ (1 ≤ v ∧ v ≤ 99)) : f_X9_isCost v M = some 0 := by rw [isCost_at, if_neg h]
theorem law_30_ok {T : Tx} {G : Sn} {B : Bx} {M : Mem} (v1 v2 v3 : Int) (hW : WT T) (hG : WG G) (hC : CI T G B M) (hM : MoI T G B M) : Ok (f_law_30 v1 v2 v3 M) (fun M' => ∃ T', WT T' ∧ CI T' G B M' ∧ MoI T' G B M') := by
  unfold f_law_30 f_L_setCosts
  have no : ¬ ((1 ≤ v1 ∧ v1 ≤ 99) ∧ (1 ≤ v2 ∧ v2 ≤ 99) ∧ (1 ≤ v3 ∧ v3 ≤ 99)) → Ok ((f_L_setCosts v1 v2 v3 M).bind fun p => (f_X10_setCosts v1 v2 v3 p.2).bind fun q => (f_X10_thrown q.2).bind fun t => if t = p.1 then if p.1 = 0 then if q.2 113 0 = q.1 then some q.2 else none else some q.2 else none) (fun M' => CI T G B M' ∧ MoI T G B M') := by
    intro hv
    unfold f_L_setCosts
    refine lawW 2 1 0 hM ?_ hW (fun _ _ => rfl) (by decide) (fun M1 h1 => ?_)
    · unfold f_X9_setCosts
      have r : Ok (some ((2 : Nat), (0 : Int), M)) (fun r => r.1 = 2 ∧ (2 = 0 → r.2.1 = 0) ∧ CI T G B r.2.2 ∧ FrC M r.2.2) := .ret ⟨rfl, fun h => absurd h (by decide), hC, FrC.rf⟩
      by_cases h1 : 1 ≤ v1 ∧ v1 ≤ 99
      · refine .bind (.val (isCost_y M h1)) (fun z hz => .ifF (by omega) ?_)
        by_cases h2 : 1 ≤ v2 ∧ v2 ≤ 99
        · refine .bind (.val (isCost_y M h2)) (fun z hz => .ifF (by omega) ?_)
          exact .bind (.val (isCost_n M (fun h3 => hv ⟨h1, h2, h3⟩))) (fun z hz => .ifT hz r)
        · exact .bind (.val (isCost_n M h2)) (fun z hz => .ifT hz r)
      · exact .bind (.val (isCost_n M h1)) (fun z hz => .ifT hz r)
    · unfold f_X10_setCosts
      refine .put fun M2 e2 => ?_
      obtain ⟨a1, a2, a3⟩ := h1.put0 e2
      have th : ∀ (k : Int × Mem → Option (Int × Mem)), (∀ p, p.1 = 1 → k p = some (0, p.2)) → Ok ((f_X10_throwsIf 1 1 M2).bind k) (fun q => q.2 84 0 = 1 ∧ ((1 : Int) = 0 → q.1 = 0) ∧ MoI T G B q.2 ∧ FrM M1 q.2) := by
        intro k hk
        refine .bind (throws_yes 1 (by decide) a3) (fun p ⟨p1, p2⟩ => .eq (hk p p1) (.ret ?_))
        obtain ⟨c1, c2, c3⟩ := a1.put0 p2
        exact ⟨c3, fun h => absurd h (by decide), c1, a2.trans c2⟩
      by_cases h1 : 1 ≤ v1 ∧ v1 ≤ 99
      · refine .bind (.val (isIn_y M2 h1)) (fun z hz => .ifF (by omega) ?_)
        by_cases h2 : 1 ≤ v2 ∧ v2 ≤ 99
        · refine .bind (.val (isIn_y M2 h2)) (fun z hz => .ifF (by omega) ?_)
          exact .bind (.val (isIn_n M2 (fun h3 => hv ⟨h1, h2, h3⟩))) (fun z hz => .ifT hz (th _ (fun p hp => if_neg (by omega))))
        · exact .bind (.val (isIn_n M2 h2)) (fun z hz => .ifT hz (th _ (fun p hp => if_neg (by omega))))
      · exact .bind (.val (isIn_n M2 h1)) (fun z hz => .ifT hz (th _ (fun p hp => if_neg (by omega))))
  by_cases hv : (1 ≤ v1 ∧ v1 ≤ 99) ∧ (1 ≤ v2 ∧ v2 ≤ 99) ∧ (1 ≤ v3 ∧ v3 ≤ 99)
  · obtain ⟨h1', h2', h3'⟩ := hv
    have hW' : WT (setPr T.1 v1 v2 v3, (pushT T).2) := (pushT_w hW).page ⟨hW.1.1, ⟨hW.1.2.1.1, hW.1.2.1.2.1, h1'.1, h1'.2, h2'.1, h2'.2, h3'.1, h3'.2⟩, hW.1.2.2⟩
    refine (lawW (T' := (setPr T.1 v1 v2 v3, (pushT T).2)) 0 0 (Tot G.1 (setPr T.1 v1 v2 v3)) hM ?_ hW' (fun _ _ => rfl) (by decide) (fun M1 h1 => ?_)).mono (fun M' h => ⟨_, hW', h⟩)
    · unfold f_X9_setCosts
      refine .bind (.val (isCost_y M h1')) (fun z hz => .ifF (by omega) (.bind (.val (isCost_y M h2')) (fun z hz => .ifF (by omega) (.bind (.val (isCost_y M h3')) (fun z hz => .ifF (by omega) ?_)))))
      refine .bind (c_begin hW hC) (fun M1 ⟨a1, a2, a3, a4⟩ => .bind (setPrices_ok 14 v1 v2 v3 M1) (fun M2 e2 => ?_))
      have hP : PgC M2 14 (setPr T.1 v1 v2 v3) := by
        obtain ⟨q1, q2, q3, q4, q5, q6, q7, q8⟩ := a1.1
        refine ⟨?_, ?_, ?_, ?_, ?_, ?_, fun p p0 p1 => ?_, fun k k0 k1 => ?_⟩
        · rw [e2, if_neg (by omega), if_neg (by omega), if_neg (by omega)]; exact q1
        · rw [e2, if_neg (by omega), if_neg (by omega), if_neg (by omega)]; exact q2
        · rw [e2, if_neg (by omega), if_neg (by omega), if_neg (by omega)]; exact q3
        · rw [e2, if_neg (by omega), if_neg (by omega), if_pos (by omega)]; rfl
        · rw [e2, if_neg (by omega), if_pos (by omega)]; rfl
        · rw [e2, if_pos (by omega)]; rfl
        · rw [e2, if_neg (by omega), if_neg (by omega), if_neg (by omega)]; exact q7 p p0 p1
        · rw [e2, if_neg (by omega), if_neg (by omega), if_neg (by omega)]; exact q8 k k0 k1
      obtain ⟨c1, c2, c3, c4⟩ := a1.pageD (pushT_w hW) hP (fun c c1 _ _ i => by rw [e2, if_neg (by omega), if_neg (by omega), if_neg (by omega)]) a3 a4
      exact .bind (c_mendNow hW' hG c1) (fun M3 ⟨m1, m2, m3, m4⟩ => .ret ⟨rfl, fun _ => m1.1, m3, (a2.trans c2).trans m4⟩)
    · unfold f_X10_setCosts
      refine .put fun M2 e2 => ?_
      obtain ⟨a1, a2, a3⟩ := h1.put0 e2
      refine .bind (.val (isIn_y M2 h1')) (fun z hz => .ifF (by omega) (.bind (.val (isIn_y M2 h2')) (fun z hz => .ifF (by omega) (.bind (.val (isIn_y M2 h3')) (fun z hz => .ifF (by omega) (.bind (.val (throws_no 1 a3)) (fun p hp => ?_)))))))
      subst hp
      refine .ifT rfl (.bind (m_keeps hW a1) (fun M3 ⟨b1, b2, b3, b4⟩ => .put fun M4 e4 => .put fun M5 e5 => .put fun M6 e6 => ?_))
      have hP : PgM M6 90 0 (setPr T.1 v1 v2 v3) := by
        obtain ⟨q1, q2, q3, q4, q5, q6, q7, q8⟩ := b1.1
        have m1 := hW.1.m1
        refine ⟨?_, ?_, ?_, ?_, ?_, ?_, fun p p0 p1 => ?_, fun k k0 k1 => ?_⟩
        · rw [e6, if_neg (by omega), e5, if_neg (by omega), e4, if_neg (by omega)]; exact q1
        · rw [e6, if_neg (by omega), e5, if_neg (by omega), e4, if_neg (by omega)]; exact q2
        · rw [e6, if_neg (by omega), e5, if_neg (by omega), e4, if_neg (by omega)]; exact q3
        · rw [e6, if_neg (by omega), e5, if_neg (by omega), e4, if_pos (by omega)]; rfl
        · rw [e6, if_neg (by omega), e5, if_pos (by omega)]; rfl
        · rw [e6, if_pos (by omega)]; rfl
        · rw [e6, if_neg (by omega), e5, if_neg (by omega), e4, if_neg (by omega)]; exact q7 p p0 p1
        · have k1 : k < T.1.mk := k1
          rw [e6, if_neg (by omega), e5, if_neg (by omega), e4, if_neg (by omega)]; exact q8 k k0 k1
      obtain ⟨d1, d2, d3⟩ := b1.page hP (fun c hc i => by rw [e6, if_neg (by omega), e5, if_neg (by omega), e4, if_neg (by omega)])
      exact .bind (m_skip (-1) hW' hG d1) (fun p ⟨p1, p2, p3, p4⟩ => .ret ⟨p4.trans (d3.trans (b3.trans a3)), fun _ => p1, p2, ((a2.trans b2).trans d2).trans p3⟩)
  · exact (no hv).mono (fun M' h => ⟨T, hW, h⟩)
