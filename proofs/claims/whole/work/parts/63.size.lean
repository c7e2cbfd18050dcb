/-! ===== size and look ===== -/
theorem irm_pos {a b : Int} (h0 : 0 ≤ a) (h1 : a ≤ 100000) (h2 : 0 < b) (h3 : b ≤ 100000) : irm a b = a % b := by
  have d0 : 0 ≤ a / b := Int.ediv_nonneg h0 (by omega)
  have d1 : a / b * b ≤ a := Int.ediv_mul_le a (by omega)
  have d2 : a / b ≤ a := Int.ediv_le_self b h0
  have d3 : 0 ≤ a / b * b := Int.mul_nonneg d0 (by omega)
  have e : a % b = a - a / b * b := by rw [Int.emod_def, Int.mul_comm]
  unfold irm
  rw [Int.tdiv_eq_ediv_of_nonneg h0, w32_of (i := a / b) (by omega) (by omega), w32_of (i := a / b * b) (by omega) (by omega), w32_of (by omega) (by omega), e]
theorem at_place {P : Pg} (hW : Wf P) {v : Int} (h : 0 ≤ v ∧ v < P.len) : ∃ p : Nat, v = p ∧ p < Nn P := ⟨v.toNat, by have := Nn_is hW; omega⟩
def sizeA (T : Tx) (G : Sn) (v : Int) : Int := if v = 0 then T.1.len else if v = 1 then nb (Rof G.1 T.1) (Nn T.1) else if v = 2 then sm (opf (Pt G.1 T.1)) (Nn T.1) else if v = 3 then sm (lnf (Rof G.1 T.1) (Pt G.1 T.1)) (Nn T.1) else if v = 4 then G.2.1 else if v = 5 then T.1.col else if v = 6 then dps (Pt G.1 T.1) (Nn T.1) (Nn T.1) else if v = 7 then lnc T.1.b (Nn T.1) + 1 else if v = 8 then T.1.mk else if v = 9 then T.2.1 else if v = 10 then nhd G.1 T.1.b (-1) (Nn T.1) else if v = 11 then T.1.drop else if v = 12 then T.1.give else T.1.chg
theorem np_op {G : Sn} (hG : WG G) (P : Pg) : np (Rof G.1 P) (Nn P) = sm (opf (Pt G.1 P)) (Nn P) := by
  rw [op_cl (PS_of hG P)]
  exact np_cl (hR_of hG P) (Nn P) (Nn P) (Nat.le_refl _)
theorem lones_val {G : Sn} (hG : WG G) {P : Pg} (hW : Wf P) : w32 (nb (Rof G.1 P) (Nn P) - w32 (2 * np (Rof G.1 P) (Nn P))) = sm (lnf (Rof G.1 P) (Pt G.1 P)) (Nn P) := by
  have k := ln_op (PS_of hG P) (hR_of hG P)
  have e := np_op hG P
  have b := np_le (Rof G.1 P) (Nn P)
  have b2 := nb_bd (Rof G.1 P) (Nn P)
  have hN := Nn_is hW
  rw [w32_of (i := 2 * np (Rof G.1 P) (Nn P)) (by omega) (by omega), w32_of (by omega) (by omega)]
  omega
theorem c_size {T : Tx} {G : Sn} {B : Bx} {M : Mem} (hW : WT T) (hG : WG G) (h : CI T G B M) {v : Int} (hv : 0 ≤ v ∧ v ≤ 13) : Ok (f_X9_size v M) (fun r => r.1 = 0 ∧ (0 = 0 → r.2.1 = sizeA T G v) ∧ CI T G B r.2.2 ∧ FrC M r.2.2) := by
  have hN := Nn_is hW.1
  unfold f_X9_size
  have hv2 : v = 0 ∨ v = 1 ∨ v = 2 ∨ v = 3 ∨ v = 4 ∨ v = 5 ∨ v = 6 ∨ v = 7 ∨ v = 8 ∨ v = 9 ∨ v = 10 ∨ v = 11 ∨ v = 12 ∨ v = 13 := by omega
  rcases hv2 with rfl | rfl | rfl | rfl | rfl | rfl | rfl | rfl | rfl | rfl | rfl | rfl | rfl | rfl
  · refine .ifT rfl (.ret ⟨rfl, fun _ => h.1.1, h, FrC.rf⟩)
  · refine .ifF (by decide) (.ifT rfl (.bind (c_readNow hW h) (fun M1 ⟨r1, r2, r3, r4, r5⟩ => .ret ⟨rfl, fun _ => r1.2.1, r3, r4⟩)))
  · refine .ifF (by decide) (.ifF (by decide) (.ifT rfl (.bind (c_readNow hW h) (fun M1 ⟨r1, r2, r3, r4, r5⟩ => .ret ⟨rfl, fun _ => r1.2.2.1.trans (np_op hG T.1), r3, r4⟩))))
  · refine .ifF (by decide) (.ifF (by decide) (.ifF (by decide) (.ifT rfl (.bind (c_readNow hW h) (fun M1 ⟨r1, r2, r3, r4, r5⟩ => .bind (.val rfl) (fun q hq => .ret ⟨rfl, fun _ => ?_, r3, r4⟩))))))
    rw [hq, r1.2.1, r1.2.2.1]
    exact lones_val hG hW.1
  · refine .ifF (by decide) (.ifF (by decide) (.ifF (by decide) (.ifF (by decide) (.ifT rfl (.ret ⟨rfl, fun _ => h.2.2.2.1.2.1, h, FrC.rf⟩)))))
  · refine .ifF (by decide) (.ifF (by decide) (.ifF (by decide) (.ifF (by decide) (.ifF (by decide) (.ifT rfl (.ret ⟨rfl, fun _ => h.1.2.2.1, h, FrC.rf⟩))))))
  · refine .ifF (by decide) (.ifF (by decide) (.ifF (by decide) (.ifF (by decide) (.ifF (by decide) (.ifF (by decide) (.ifT rfl (.bind (c_readNow hW h) (fun M1 ⟨r1, r2, r3, r4, r5⟩ => .ret ⟨rfl, fun _ => r1.2.2.2.2.1, r3, r4⟩))))))))
  · refine .ifF (by decide) (.ifF (by decide) (.ifF (by decide) (.ifF (by decide) (.ifF (by decide) (.ifF (by decide) (.ifF (by decide) (.ifT rfl (.bind (.val (v := lnc T.1.b (Nn T.1)) ?_) (fun q hq => .ret ⟨rfl, fun _ => ?_, h, FrC.rf⟩)))))))))
    · have e : M 14 2 = ((Nn T.1 : Nat) : Int) := by rw [hN.1]; exact h.1.1
      rw [e]
      exact c_lineOf hW.1 h.1 (Nn T.1) (by omega)
    · have b := lnc_bd T.1.b (Nn T.1)
      rw [hq]
      exact w32_of (by omega) (by omega)
  · refine .ifF (by decide) (.ifF (by decide) (.ifF (by decide) (.ifF (by decide) (.ifF (by decide) (.ifF (by decide) (.ifF (by decide) (.ifF (by decide) (.ifT rfl (.ret ⟨rfl, fun _ => h.1.2.1, h, FrC.rf⟩)))))))))
  · refine .ifF (by decide) (.ifF (by decide) (.ifF (by decide) (.ifF (by decide) (.ifF (by decide) (.ifF (by decide) (.ifF (by decide) (.ifF (by decide) (.ifF (by decide) (.ifT rfl (.ret ⟨rfl, fun _ => h.2.1.1, h, FrC.rf⟩))))))))))
  · refine .ifF (by decide) (.ifF (by decide) (.ifF (by decide) (.ifF (by decide) (.ifF (by decide) (.ifF (by decide) (.ifF (by decide) (.ifF (by decide) (.ifF (by decide) (.ifF (by decide) (.ifT rfl (.bind (c_readNow hW h) (fun M1 ⟨r1, r2, r3, r4, r5⟩ => .ret ⟨rfl, fun _ => r1.2.2.2.1, r3, r4⟩))))))))))))
  · refine .ifF (by decide) (.ifF (by decide) (.ifF (by decide) (.ifF (by decide) (.ifF (by decide) (.ifF (by decide) (.ifF (by decide) (.ifF (by decide) (.ifF (by decide) (.ifF (by decide) (.ifF (by decide) (.ifT rfl (.ret ⟨rfl, fun _ => h.1.2.2.2.1, h, FrC.rf⟩))))))))))))
  · refine .ifF (by decide) (.ifF (by decide) (.ifF (by decide) (.ifF (by decide) (.ifF (by decide) (.ifF (by decide) (.ifF (by decide) (.ifF (by decide) (.ifF (by decide) (.ifF (by decide) (.ifF (by decide) (.ifF (by decide) (.ifT rfl (.ret ⟨rfl, fun _ => h.1.2.2.2.2.1, h, FrC.rf⟩)))))))))))))
  · refine .ifF (by decide) (.ifF (by decide) (.ifF (by decide) (.ifF (by decide) (.ifF (by decide) (.ifF (by decide) (.ifF (by decide) (.ifF (by decide) (.ifF (by decide) (.ifF (by decide) (.ifF (by decide) (.ifF (by decide) (.ifF (by decide) (.ifT rfl (.ret ⟨rfl, fun _ => h.1.2.2.2.2.2.1, h, FrC.rf⟩))))))))))))))
theorem c_size_no {v : Int} (hv : ¬ (0 ≤ v ∧ v ≤ 13)) (M : Mem) : f_X9_size v M = some (2, 0, M) := by
  unfold f_X9_size
  rw [if_neg (by omega), if_neg (by omega), if_neg (by omega), if_neg (by omega), if_neg (by omega), if_neg (by omega), if_neg (by omega), if_neg (by omega), if_neg (by omega), if_neg (by omega), if_neg (by omega), if_neg (by omega), if_neg (by omega), if_neg (by omega)]
theorem m_size {T : Tx} {G : Sn} {B : Bx} {M : Mem} (hW : WT T) (hG : WG G) (h : MoI T G B M) {v : Int} (hv : 0 ≤ v ∧ v ≤ 13) : Ok (f_X10_size v M) (fun q => q.2 84 0 = 0 ∧ ((0 : Int) = 0 → q.1 = sizeA T G v) ∧ MoI T G B q.2 ∧ FrM M q.2) := by
  have hN := Nn_is hW.1
  unfold f_X10_size
  refine .put fun M1 e1 => ?_
  obtain ⟨a1, a2, a3⟩ := h.put0 e1
  refine .bind (.val (isIn_y M1 hv)) (fun z hz => .ifF (by omega) (.bind (.val (throws_no 1 a3)) (fun p hp => ?_)))
  subst hp
  refine .ifT rfl (.bind (m_find hW hG a1) (fun M2 ⟨b1, b2, b3, b4, b5⟩ => ?_))
  have b4 : M2 84 0 = 0 := b4.trans a3
  have a3 : (0 : Int) = 0 := rfl
  have hv2 : v = 0 ∨ v = 1 ∨ v = 2 ∨ v = 3 ∨ v = 4 ∨ v = 5 ∨ v = 6 ∨ v = 7 ∨ v = 8 ∨ v = 9 ∨ v = 10 ∨ v = 11 ∨ v = 12 ∨ v = 13 := by omega
  rcases hv2 with rfl | rfl | rfl | rfl | rfl | rfl | rfl | rfl | rfl | rfl | rfl | rfl | rfl | rfl
  · refine .ifT rfl (.ret ⟨b4.trans a3, fun _ => b2.1.1, b2, a2.trans b3⟩)
  · refine .ifF (by decide) (.ifT rfl (.ret ⟨b4.trans a3, fun _ => b1.1.2.2.2.1.1, b2, a2.trans b3⟩))
  · refine .ifF (by decide) (.ifF (by decide) (.ifT rfl (.bind (.val (pairs_at b1.1)) (fun q hq => .ret ⟨b4.trans a3, fun _ => hq, b2, a2.trans b3⟩))))
  · refine .ifF (by decide) (.ifF (by decide) (.ifF (by decide) (.ifT rfl (.bind (.val (lones_at b1.1)) (fun q hq => .ret ⟨b4.trans a3, fun _ => hq, b2, a2.trans b3⟩)))))
  · refine .ifF (by decide) (.ifF (by decide) (.ifF (by decide) (.ifF (by decide) (.ifT rfl (.ret ⟨b4.trans a3, fun _ => b2.2.2.2.1.2.1, b2, a2.trans b3⟩)))))
  · refine .ifF (by decide) (.ifF (by decide) (.ifF (by decide) (.ifF (by decide) (.ifF (by decide) (.ifT rfl (.ret ⟨b4.trans a3, fun _ => b2.1.2.2.1, b2, a2.trans b3⟩))))))
  · refine .ifF (by decide) (.ifF (by decide) (.ifF (by decide) (.ifF (by decide) (.ifF (by decide) (.ifF (by decide) (.ifT rfl (.bind (.val (deepest_at b1.1)) (fun q hq => .ret ⟨b4.trans a3, fun _ => hq, b2, a2.trans b3⟩))))))))
  · refine .ifF (by decide) (.ifF (by decide) (.ifF (by decide) (.ifF (by decide) (.ifF (by decide) (.ifF (by decide) (.ifF (by decide) (.ifT rfl (.bind (.val (v := lnc T.1.b (Nn T.1)) ?_) (fun q hq => .ret ⟨b4.trans a3, fun _ => ?_, b2, a2.trans b3⟩)))))))))
    · have e : M2 90 0 = ((Nn T.1 : Nat) : Int) := by rw [hN.1]; exact b2.1.1
      rw [e]
      exact m_lineOf hW.1 b2.1 (Nn T.1) (by omega)
    · have b := lnc_bd T.1.b (Nn T.1)
      rw [hq]
      exact w32_of (by omega) (by omega)
  · refine .ifF (by decide) (.ifF (by decide) (.ifF (by decide) (.ifF (by decide) (.ifF (by decide) (.ifF (by decide) (.ifF (by decide) (.ifF (by decide) (.ifT rfl (.ret ⟨b4.trans a3, fun _ => b2.1.2.1, b2, a2.trans b3⟩)))))))))
  · refine .ifF (by decide) (.ifF (by decide) (.ifF (by decide) (.ifF (by decide) (.ifF (by decide) (.ifF (by decide) (.ifF (by decide) (.ifF (by decide) (.ifF (by decide) (.ifT rfl (.ret ⟨b4.trans a3, fun _ => b2.2.1.1, b2, a2.trans b3⟩))))))))))
  · refine .ifF (by decide) (.ifF (by decide) (.ifF (by decide) (.ifF (by decide) (.ifF (by decide) (.ifF (by decide) (.ifF (by decide) (.ifF (by decide) (.ifF (by decide) (.ifF (by decide) (.ifT rfl (.bind (.val (m_hidden hW b1 b2.1.1)) (fun q hq => .ret ⟨b4.trans a3, fun _ => hq, b2, a2.trans b3⟩))))))))))))
  · refine .ifF (by decide) (.ifF (by decide) (.ifF (by decide) (.ifF (by decide) (.ifF (by decide) (.ifF (by decide) (.ifF (by decide) (.ifF (by decide) (.ifF (by decide) (.ifF (by decide) (.ifF (by decide) (.ifT (by rw [w32_of (by decide) (by decide), w32_of (by decide) (by decide)]; decide) (.ret ⟨b4, fun _ => ?_, b2, a2.trans b3⟩))))))))))))
    rw [w32_of (i := 11 + 11) (by decide) (by decide), w32_of (by decide) (by decide)]
    exact b2.1.2.2.2.1
  · refine .ifF (by decide) (.ifF (by decide) (.ifF (by decide) (.ifF (by decide) (.ifF (by decide) (.ifF (by decide) (.ifF (by decide) (.ifF (by decide) (.ifF (by decide) (.ifF (by decide) (.ifF (by decide) (.ifT (by rw [w32_of (by decide) (by decide), w32_of (by decide) (by decide)]; decide) (.ret ⟨b4, fun _ => ?_, b2, a2.trans b3⟩))))))))))))
    rw [w32_of (i := 11 + 12) (by decide) (by decide), w32_of (by decide) (by decide)]
    exact b2.1.2.2.2.2.1
  · refine .ifF (by decide) (.ifF (by decide) (.ifF (by decide) (.ifF (by decide) (.ifF (by decide) (.ifF (by decide) (.ifF (by decide) (.ifF (by decide) (.ifF (by decide) (.ifF (by decide) (.ifF (by decide) (.ifT (by rw [w32_of (by decide) (by decide), w32_of (by decide) (by decide)]; decide) (.ret ⟨b4, fun _ => ?_, b2, a2.trans b3⟩))))))))))))
    rw [w32_of (i := 11 + 13) (by decide) (by decide), w32_of (by decide) (by decide)]
    exact b2.1.2.2.2.2.2.1
theorem m_size_no {T : Tx} {G : Sn} {B : Bx} {M : Mem} (h : MoI T G B M) {v : Int} (hv : ¬ (0 ≤ v ∧ v ≤ 13)) (val : Int) : Ok (f_X10_size v M) (fun q => q.2 84 0 = 1 ∧ ((1 : Int) = 0 → q.1 = val) ∧ MoI T G B q.2 ∧ FrM M q.2) := by
  unfold f_X10_size
  refine .put fun M1 e1 => ?_
  obtain ⟨a1, a2, a3⟩ := h.put0 e1
  refine .bind (.val (isIn_n M1 hv)) (fun z hz => .ifT hz (.bind (throws_yes 1 (by decide) a3) (fun p ⟨p1, p2⟩ => .ifF (by omega) (.ret ?_))))
  obtain ⟨c1, c2, c3⟩ := a1.put0 p2
  exact ⟨c3, fun h => absurd h (by decide), c1, a2.trans c2⟩
theorem law_4_ok {T : Tx} {G : Sn} {B : Bx} {M : Mem} (v1 : Int) (hW : WT T) (hG : WG G) (hC : CI T G B M) (hM : MoI T G B M) : Ok (f_law_4 v1 M) (fun M' => CI T G B M' ∧ MoI T G B M') := by
  unfold f_law_4 f_L_size
  by_cases hv : 0 ≤ v1 ∧ v1 ≤ 13
  · exact lawW 0 0 (sizeA T G v1) hM (c_size hW hG hC hv) hW (fun _ _ => rfl) (by decide) (fun M1 h1 => m_size hW hG h1 hv)
  · exact lawW 2 1 0 hM (.eq (c_size_no hv M) (.ret ⟨rfl, fun h => absurd h (by decide), hC, FrC.rf⟩)) hW (fun _ _ => rfl) (by decide) (fun M1 h1 => m_size_no h1 hv 0)
theorem law_3_ok {T : Tx} {G : Sn} {B : Bx} {M : Mem} (hW : WT T) (hC : CI T G B M) (hM : MoI T G B M) : Ok (f_law_3 M) (fun M' => CI T G B M' ∧ MoI T G B M') := by
  unfold f_law_3
  refine .bind (.val rfl) (fun x hx => .bind (Q := fun q => q.1 = B.2.2.1 ∧ CI T G B q.2 ∧ MoI T G B q.2) ?_ (fun q ⟨q1, q2, q3⟩ => .ifT ?_ (.ret ⟨q2, q3⟩)))
  · unfold f_X10_errorPosition
    refine .put fun M1 e1 => .ret ?_
    obtain ⟨a1, a2, a3⟩ := hM.put0 e1
    exact ⟨a1.2.2.2.2.2.1, CI.same hW hC (fun c i hc => a2 c i (Or.inl hc)), a1⟩
  · rw [hx, q1]
    exact hC.2.2.2.2.2.1
