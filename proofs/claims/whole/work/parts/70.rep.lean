/-! ===== the repair's cost and steps, asked for ===== -/
theorem pln_rng {r : Nat → Int} {al ch : Int} (hr : ∀ k, r k = -1 ∨ (0 ≤ r k ∧ r k ≤ 7)) : ∀ (d i j k : Nat), j - i ≤ d → i ≤ k → k < j → (pln r al ch d i j k = -1) ∨ (pln r al ch d i j k = -2 ∧ r k % 2 = 0) ∨ (∃ i' : Nat, i ≤ i' ∧ i' < j ∧ r i' % 2 = 0 ∧ pln r al ch d i j k = r i' + 1 ∧ r k % 2 = 1) := by
  intro d
  induction d with
  | zero => intro i j k hd h0 h1; omega
  | succ d ih =>
    intro i j k hd h0 h1
    have hij : i < j := by omega
    rw [pln_s r al ch hij]
    by_cases hk : k = i
    · rw [if_pos hk]
      by_cases hw : Wy r al ch i j = -1
      · rw [if_pos hw]; exact Or.inl rfl
      · rw [if_neg hw]
        rcases Cs_is r al ch hij with ⟨q, _⟩ | ⟨m, q, m0, m1, m2, m3, _⟩
        · exact absurd q hw
        · exact Or.inr (Or.inl ⟨rfl, by rw [hk]; exact m2⟩)
    · rw [if_neg hk]
      by_cases hw : Wy r al ch i j = -1
      · rw [if_pos hw]
        rcases ih (i + 1) j k (by omega) (by omega) h1 with h | h | ⟨i', a, b, c⟩
        · exact Or.inl h
        · exact Or.inr (Or.inl h)
        · exact Or.inr (Or.inr ⟨i', by omega, b, c⟩)
      · rw [if_neg hw]
        rcases Cs_is r al ch hij with ⟨q, _⟩ | ⟨m, q, m0, m1, m2, m3, _⟩
        · exact absurd q hw
        · have mN : (Wy r al ch i j).toNat = m := by omega
          rw [mN]
          by_cases h2 : (k : Int) < Wy r al ch i j
          · rw [if_pos h2]
            rcases ih (i + 1) m k (by omega) (by omega) (by omega) with h | h | ⟨i', a, b, c⟩
            · exact Or.inl h
            · exact Or.inr (Or.inl h)
            · exact Or.inr (Or.inr ⟨i', by omega, by omega, c⟩)
          · rw [if_neg h2]
            by_cases h3 : (k : Int) = Wy r al ch i j
            · rw [if_pos h3]
              have : k = m := by omega
              subst this
              exact Or.inr (Or.inr ⟨i, by omega, by omega, m2, rfl, m3⟩)
            · rw [if_neg h3]
              rcases ih (m + 1) j k (by omega) (by omega) h1 with h | h | ⟨i', a, b, c⟩
              · exact Or.inl h
              · exact Or.inr (Or.inl h)
              · exact Or.inr (Or.inr ⟨i', by omega, b, c⟩)
theorem rr_bd {G : Sn} (hG : WG G) (P : Pg) (k : Nat) : Rr G.1 P k = -1 ∨ (0 ≤ Rr G.1 P k ∧ Rr G.1 P k ≤ 7) := hR_of hG P _
theorem cd_rng {G : Sn} (hG : WG G) (P : Pg) {k : Nat} (hk : k < Kk G.1 P) : (Cd G.1 P k = -1) ∨ (Cd G.1 P k = -2 ∧ Rr G.1 P k % 2 = 0) ∨ (∃ i' : Nat, i' < Kk G.1 P ∧ Rr G.1 P i' % 2 = 0 ∧ Cd G.1 P k = Rr G.1 P i' + 1 ∧ Rr G.1 P k % 2 = 1) := by
  rcases pln_rng (r := Rr G.1 P) (al := Al P) (ch := P.chg) (rr_bd hG P) (Kk G.1 P) 0 (Kk G.1 P) k (by omega) (by omega) hk with h | h | ⟨i', _, b, c⟩
  · exact Or.inl h
  · exact Or.inr (Or.inl h)
  · exact Or.inr (Or.inr ⟨i', b, c⟩)
theorem cnt_sur {ac : Int} {r c : Nat → Int} : ∀ (N : Nat) (k : Int), 0 ≤ k → k < cnt ac r c N → ∃ p : Nat, p < N ∧ daC ac r c p ≠ -1 ∧ cnt ac r c p = k := by
  intro N
  induction N with
  | zero => intro k h0 h1; exact absurd h1 (by show ¬ k < (0 : Int); omega)
  | succ N ih =>
    intro k h0 h1
    by_cases hr : daC ac r c N = -1
    · rw [cnt_s0 hr] at h1
      obtain ⟨p, a, b⟩ := ih k h0 h1
      exact ⟨p, by omega, b⟩
    · rw [cnt_s1 hr] at h1
      by_cases e : k = cnt ac r c N
      · exact ⟨N, by omega, hr, e.symm⟩
      · obtain ⟨p, a, b⟩ := ih k h0 (by omega)
        exact ⟨p, by omega, b⟩
def Cnt (ρ : Int → Int) (P : Pg) (n : Nat) : Int := cnt (act P.drop P.give) (Rr ρ P) (Cd ρ P) n
theorem Kk_le {P : Pg} (ρ : Int → Int) (hW : Wf P) : Kk ρ P ≤ 240 := by have := Nn_is hW; have := kk_is (Rof ρ P) (Nn P); unfold Kk; omega
/-- what the model knows when it has laid a repair -/
def MR (T : Tx) (G : Sn) (M : Mem) : Prop := MA (Rof G.1 T.1) (Nn T.1) M ∧ ∀ k : Nat, k < Kk G.1 T.1 → M 100 k = Da G.1 T.1 k ∧ M 101 k = Gt G.1 T.1 k
theorem m_lays {T : Tx} {G : Sn} {B : Bx} {M : Mem} (hW : WT T) (hG : WG G) (h : MoI T G B M) : Ok (f_X10_laysRepair M) (fun p => p.1 = Tot G.1 T.1 ∧ MR T G p.2 ∧ MoI T G B p.2 ∧ FrM M p.2 ∧ p.2 84 0 = M 84 0) := by
  refine (laysRepair_ok hW.1 hG.r10 hG.2.1 M h.1 h.2.2.2.1.1).mono (fun p ⟨p1, p2, p3, p4⟩ => ⟨p1, ⟨p2, p3⟩, h.q (fun c i h0 h1 hq => p4 c i (by unfold QM at hq; unfold LRZ FZ; omega)), fun c i hc => p4 c i (by unfold LRZ FZ; omega), p4 84 0 (by unfold LRZ FZ; omega)⟩)
theorem m_steps_L {T : Tx} {G : Sn} {M : Mem} (hW : WT T) (h : MR T G M) : ∀ (r fuel n : Nat) (a v : Int), Kk G.1 T.1 - n = r → r < fuel → n ≤ Kk G.1 T.1 → v = n → a = Cnt G.1 T.1 n → f_X10_steps_L4 fuel a v M = some (Cnt G.1 T.1 (Kk G.1 T.1)) := by
  have hK := Kk_le G.1 hW.1
  have m26 : M 84 26 = Kk G.1 T.1 := h.1.mg.1
  intro r
  induction r with
  | zero =>
    intro fuel n a v hr hf hn hv ha
    obtain ⟨fuel, rfl⟩ : ∃ f, fuel = f + 1 := ⟨fuel - 1, by omega⟩
    have : n = Kk G.1 T.1 := by omega
    subst this
    rw [f_X10_steps_L4, if_pos (by omega), ha]
  | succ r ih =>
    intro fuel n a v hr hf hn hv ha
    obtain ⟨fuel, rfl⟩ : ∃ f, fuel = f + 1 := ⟨fuel - 1, by omega⟩
    subst hv
    have cb : 0 ≤ Cnt G.1 T.1 n ∧ Cnt G.1 T.1 n ≤ n := cnt_bd _ _ _ n
    rw [f_X10_steps_L4, if_neg (by omega), if_pos (by omega), (h.2 n (by omega)).1]
    simp only [lt1_e]
    rw [w32_of (i := (n : Int) + 1) (by omega) (by omega), w32_of (i := a + 0) (by omega) (by omega), w32_of (i := a + 1) (by omega) (by omega)]
    by_cases hd : Da G.1 T.1 n = -1
    · rw [if_pos hd]
      exact ih fuel (n + 1) _ _ (by omega) (by omega) (by omega) (by omega) (by rw [ha, Int.add_zero]; exact (cnt_s0 hd).symm)
    · rw [if_neg hd]
      exact ih fuel (n + 1) _ _ (by omega) (by omega) (by omega) (by omega) (by rw [ha]; exact (cnt_s1 hd).symm)
theorem m_steps {T : Tx} {G : Sn} {M : Mem} (hW : WT T) (h : MR T G M) : f_X10_steps M = some (Cnt G.1 T.1 (Kk G.1 T.1)) := by
  have hK := Kk_le G.1 hW.1
  exact m_steps_L hW h (Kk G.1 T.1) 4096 0 0 0 (by omega) (by omega) (by omega) rfl rfl
theorem law_14_ok {T : Tx} {G : Sn} {B : Bx} {M : Mem} (hW : WT T) (hG : WG G) (hC : CI T G B M) (hM : MoI T G B M) : Ok (f_law_14 M) (fun M' => CI T G B M' ∧ MoI T G B M') := by
  unfold f_law_14
  refine lawV (Tot G.1 T.1) hM hW ?_ (fun M1 h1 => ?_)
  · unfold f_X9_repairCost
    exact .bind (c_mendNow hW hG hC) (fun M1 ⟨r1, r2, r3, r4⟩ => .ret ⟨r1.1, r3, r4⟩)
  · unfold f_X10_repairCost
    refine .put fun M2 e2 => ?_
    obtain ⟨a1, a2, a3⟩ := h1.put0 e2
    refine .bind (mcostOf_ok (-1) hW.1 hG.r10 hG.2.1 M2 a1.1 a1.2.2.2.1.1) (fun p ⟨p1, p2, p3, p4⟩ => .ret ⟨p1, a1.q (fun c i h0 h1 hq => p4 c i (by unfold QM at hq; unfold FZ LZ; omega)), a2.trans (fun c i hc => p4 c i (by unfold FZ LZ; omega))⟩)
theorem law_15_ok {T : Tx} {G : Sn} {B : Bx} {M : Mem} (hW : WT T) (hG : WG G) (hC : CI T G B M) (hM : MoI T G B M) : Ok (f_law_15 M) (fun M' => CI T G B M' ∧ MoI T G B M') := by
  unfold f_law_15
  refine lawV (Cnt G.1 T.1 (Kk G.1 T.1)) hM hW ?_ (fun M1 h1 => ?_)
  · unfold f_X9_repairSteps
    exact .bind (c_mendNow hW hG hC) (fun M1 ⟨r1, r2, r3, r4⟩ => .ret ⟨r1.2.1.1, r3, r4⟩)
  · unfold f_X10_repairSteps
    refine .put fun M2 e2 => ?_
    obtain ⟨a1, a2, a3⟩ := h1.put0 e2
    exact .bind (m_lays hW hG a1) (fun p ⟨p1, p2, p3, p4, p5⟩ => .let fun x _ => .bind (.val (m_steps hW p2)) (fun q hq => .ret ⟨hq, p3, a2.trans p4⟩))
/-- the model looks for a step -/
theorem m_step_L {T : Tx} {G : Sn} {M : Mem} (hW : WT T) (h : MR T G M) (w : Int) {b : Nat} (hb : b < Kk G.1 T.1) (hd : Da G.1 T.1 b ≠ -1) : ∀ (r fuel n : Nat) (v k : Int), b - n = r → r < fuel → n ≤ b → v = n → k = Cnt G.1 T.1 b - Cnt G.1 T.1 n → f_X10_repairStep_L67 fuel w v k M = f_X10_repairStep_K110 w b M := by
  have hK := Kk_le G.1 hW.1
  intro r
  induction r with
  | zero =>
    intro fuel n v k hr hf hn hv hk
    obtain ⟨fuel, rfl⟩ : ∃ f, fuel = f + 1 := ⟨fuel - 1, by omega⟩
    have : n = b := by omega
    subst this
    subst hv
    rw [f_X10_repairStep_L67, if_pos (by omega), (h.2 n hb).1, if_neg hd, if_pos (by omega)]
  | succ r ih =>
    intro fuel n v k hr hf hn hv hk
    obtain ⟨fuel, rfl⟩ : ∃ f, fuel = f + 1 := ⟨fuel - 1, by omega⟩
    subst hv
    have cb : 0 ≤ Cnt G.1 T.1 b ∧ Cnt G.1 T.1 b ≤ b := cnt_bd _ _ _ b
    have cn : 0 ≤ Cnt G.1 T.1 n ∧ Cnt G.1 T.1 n ≤ n := cnt_bd _ _ _ n
    rw [f_X10_repairStep_L67, if_pos (by omega), (h.2 n (by omega)).1]
    simp only [lt1_e]
    rw [w32_of (i := (n : Int) + 1) (by omega) (by omega), w32_of (i := k - 0) (by omega) (by omega), w32_of (i := k - 1) (by omega) (by omega)]
    by_cases hn' : Da G.1 T.1 n = -1
    · rw [if_pos hn', if_pos hn']
      have e : Cnt G.1 T.1 (n + 1) = Cnt G.1 T.1 n := cnt_s0 hn'
      exact ih fuel (n + 1) _ _ (by omega) (by omega) (by omega) (by omega) (by omega)
    · have e : Cnt G.1 T.1 (n + 1) = Cnt G.1 T.1 n + 1 := cnt_s1 hn'
      have mo : Cnt G.1 T.1 (n + 1) ≤ Cnt G.1 T.1 b := cnt_mono _ _ _ (by omega)
      rw [if_neg hn', if_neg (by omega), if_neg hn']
      exact ih fuel (n + 1) _ _ (by omega) (by omega) (by omega) (by omega) (by omega)
def stepA (T : Tx) (G : Sn) (b : Nat) (w : Int) : Int := if w = 0 then Da G.1 T.1 b else if w = 1 then plc (Rof G.1 T.1) (Nn T.1) b else Gt G.1 T.1 b
theorem hasStep_y {k : Int} {M : Mem} (h : 0 ≤ k ∧ k < M 66 11) (h2 : k < 240) : f_X2_hasStep k M = some 1 := by
  unfold f_X2_hasStep
  rw [if_neg (by omega), if_neg (by omega), if_neg (by omega)]
theorem actOf_at {k : Int} {M : Mem} (h : 0 ≤ k ∧ k < M 66 11) (h2 : k < 240) : f_X2_actOf k M = some (M 74 k) := by
  unfold f_X2_actOf
  rw [hasStep_y h h2]
  show (if (1 : Int) = 0 then some (-1) else if (0 : Int) ≤ k ∧ k < 240 then some (M 74 k) else none) = _
  rw [if_neg (by decide), if_pos (by omega)]
theorem placeOf_at {k : Int} {M : Mem} (h : 0 ≤ k ∧ k < M 66 11) (h2 : k < 240) : f_X2_placeOf k M = some (M 75 k) := by
  unfold f_X2_placeOf
  rw [hasStep_y h h2]
  show (if (1 : Int) = 0 then some (-1) else if (0 : Int) ≤ k ∧ k < 240 then some (M 75 k) else none) = _
  rw [if_neg (by decide), if_pos (by omega)]
theorem roleOfS_at {k : Int} {M : Mem} (h : 0 ≤ k ∧ k < M 66 11) (h2 : k < 240) : f_X2_roleOf k M = some (M 76 k) := by
  unfold f_X2_roleOf
  rw [hasStep_y h h2]
  show (if (1 : Int) = 0 then some (-1) else if (0 : Int) ≤ k ∧ k < 240 then some (M 76 k) else none) = _
  rw [if_neg (by decide), if_pos (by omega)]
theorem law_16_ok {T : Tx} {G : Sn} {B : Bx} {M : Mem} (v1 v2 : Int) (hW : WT T) (hG : WG G) (hC : CI T G B M) (hM : MoI T G B M) : Ok (f_law_16 v1 v2 M) (fun M' => CI T G B M' ∧ MoI T G B M') := by
  have hK := Kk_le G.1 hW.1
  have cK : 0 ≤ Cnt G.1 T.1 (Kk G.1 T.1) ∧ Cnt G.1 T.1 (Kk G.1 T.1) ≤ Kk G.1 T.1 := cnt_bd _ _ _ _
  unfold f_law_16 f_L_repairStep
  by_cases hk : 0 ≤ v1 ∧ v1 < Cnt G.1 T.1 (Kk G.1 T.1)
  · obtain ⟨b, b1, b2, b3⟩ := cnt_sur (Kk G.1 T.1) v1 hk.1 hk.2
    by_cases hw : 0 ≤ v2 ∧ v2 ≤ 2
    · have rb := rr_bd hG T.1 b
      refine lawW 0 0 (stepA T G b v2) hM ?_ hW (fun _ _ => rfl) (by decide) (fun M1 h1 => ?_)
      · unfold f_X9_repairStep
        refine .ifF (by omega) (.bind (c_mendNow hW hG hC) (fun M1 ⟨r1, r2, r3, r4⟩ => ?_))
        have e11 : M1 66 11 = Cnt G.1 T.1 (Kk G.1 T.1) := r1.2.1.1
        have st := r1.2.1.2 b b1 b2
        rw [b3] at st
        refine .ifT (by omega) ?_
        have hw2 : v2 = 0 ∨ v2 = 1 ∨ v2 = 2 := by omega
        rcases hw2 with rfl | rfl | rfl
        · refine .ifT rfl (.bind (.val (mendNow_twice r2)) (fun M2 hM2 => ?_))
          subst hM2
          exact .bind (.val (actOf_at (by omega) (by omega))) (fun q hq => .ret ⟨rfl, fun _ => hq.trans st.1, r3, r4⟩)
        · refine .ifF (by decide) (.ifT rfl (.bind (.val (mendNow_twice r2)) (fun M2 hM2 => ?_)))
          subst hM2
          exact .bind (.val (placeOf_at (by omega) (by omega))) (fun q hq => .ret ⟨rfl, fun _ => hq.trans st.2.1, r3, r4⟩)
        · refine .ifF (by decide) (.ifF (by decide) (.ifT rfl (.bind (.val (mendNow_twice r2)) (fun M2 hM2 => ?_))))
          subst hM2
          refine .bind (.val (roleOfS_at (by omega) (by omega))) (fun q hq => .ret ⟨rfl, fun _ => ?_, r3, r4⟩)
          have e : stepA T G b 2 = Gt G.1 T.1 b := rfl
          have b2' : daC (act T.1.drop T.1.give) (Rr G.1 T.1) (Cd G.1 T.1) b ≠ -1 := b2
          rw [hq, st.2.2, e]
          have pl := plc_is (R := Rof G.1 T.1) (N := Nn T.1) (k := b) (by have := kk_is (Rof G.1 T.1) (Nn T.1); have b1' : b < kk (Rof G.1 T.1) (Nn T.1) := b1; omega)
          obtain ⟨p, _, pr, _, _, pe⟩ := pl
          have rne : Rr G.1 T.1 b ≠ -1 := by show ro (Rof G.1 T.1) (Nn T.1) b ≠ -1; rw [pe]; exact pr
          unfold Gt gtC srC
          rcases cd_rng hG T.1 b1 with hc | ⟨hc, _⟩ | ⟨i', _, i2, hc, _⟩
          · rw [if_pos hc, if_pos (by omega)]
            exact idv2 (by omega) (by omega)
          · exact absurd (by unfold daC; rw [if_neg (by omega), if_pos hc]) b2'
          · have ri := rr_bd hG T.1 i'
            rw [if_neg (by omega), if_neg (by omega)]
            exact idv2 (by omega) (by omega)
      · unfold f_X10_repairStep
        refine .put fun M2 e2 => ?_
        obtain ⟨a1, a2, a3⟩ := h1.put0 e2
        refine .bind (m_lays hW hG a1) (fun p ⟨p1, p2, p3, p4, p5⟩ => .let fun x _ => .bind (.val (m_steps hW p2)) (fun q hq => ?_))
        have p0 : p.2 84 0 = 0 := p5.trans a3
        rw [hq, w32_of (by omega) (by omega)]
        refine .bind (.val (isIn_y p.2 (by omega))) (fun z hz => .ifF (by omega) (.bind (.val (throws_no 1 p0)) (fun y hy => ?_)))
        subst hy
        refine .ifT rfl (.bind (.val (isIn_y p.2 hw)) (fun z hz => .ifF (by omega) (.bind (.val (throws_no 2 p0)) (fun y hy => ?_))))
        subst hy
        refine .ifT rfl (.eq (m_step_L hW p2 v2 b1 b2 b 4096 0 0 v1 (by omega) (by omega) (by omega) rfl (by have : Cnt G.1 T.1 0 = 0 := rfl; have b3' : Cnt G.1 T.1 b = v1 := b3; omega)) ?_)
        have mg := p2.1.mg.2 b b1
        have dg := p2.2 b b1
        unfold f_X10_repairStep_K110
        have hw2 : v2 = 0 ∨ v2 = 1 ∨ v2 = 2 := by omega
        rcases hw2 with rfl | rfl | rfl
        · exact .ifT rfl (.ifT (by omega) (.ret ⟨p0, fun _ => dg.1, p3, a2.trans p4⟩))
        · exact .ifF (by decide) (.ifT rfl (.ifT (by omega) (.ret ⟨p0, fun _ => mg.1, p3, a2.trans p4⟩)))
        · exact .ifF (by decide) (.ifF (by decide) (.ifT (by omega) (.ret ⟨p0, fun _ => dg.2, p3, a2.trans p4⟩)))
    · refine lawW 2 2 0 hM ?_ hW (fun _ _ => rfl) (by decide) (fun M1 h1 => ?_)
      · unfold f_X9_repairStep
        refine .ifF (by omega) (.bind (c_mendNow hW hG hC) (fun M1 ⟨r1, r2, r3, r4⟩ => ?_))
        have e11 : M1 66 11 = Cnt G.1 T.1 (Kk G.1 T.1) := r1.2.1.1
        exact .ifT (by omega) (.ifF (by omega) (.ifF (by omega) (.ifF (by omega) (.ret ⟨rfl, fun h => absurd h (by decide), r3, r4⟩))))
      · unfold f_X10_repairStep
        refine .put fun M2 e2 => ?_
        obtain ⟨a1, a2, a3⟩ := h1.put0 e2
        refine .bind (m_lays hW hG a1) (fun p ⟨p1, p2, p3, p4, p5⟩ => .let fun x _ => .bind (.val (m_steps hW p2)) (fun q hq => ?_))
        have p0 : p.2 84 0 = 0 := p5.trans a3
        rw [hq, w32_of (by omega) (by omega)]
        refine .bind (.val (isIn_y p.2 (by omega))) (fun z hz => .ifF (by omega) (.bind (.val (throws_no 1 p0)) (fun y hy => ?_)))
        subst hy
        refine .ifT rfl (.bind (.val (isIn_n p.2 hw)) (fun z hz => .ifT hz (.bind (throws_yes 2 (by decide) p0) (fun y ⟨y1, y2⟩ => .ifF (by omega) (.ret ?_)))))
        obtain ⟨c1, c2, c3⟩ := p3.put0 y2
        exact ⟨c3, fun h => absurd h (by decide), c1, (a2.trans p4).trans c2⟩
  · refine lawW 3 1 0 hM ?_ hW (fun _ _ => rfl) (by decide) (fun M1 h1 => ?_)
    · unfold f_X9_repairStep
      refine .ifC (fun h => .ret ⟨rfl, fun h => absurd h (by decide), hC, FrC.rf⟩) (fun h => .bind (c_mendNow hW hG hC) (fun M1 ⟨r1, r2, r3, r4⟩ => ?_))
      have e11 : M1 66 11 = Cnt G.1 T.1 (Kk G.1 T.1) := r1.2.1.1
      exact .ifF (by omega) (.ret ⟨rfl, fun h => absurd h (by decide), r3, r4⟩)
    · unfold f_X10_repairStep
      refine .put fun M2 e2 => ?_
      obtain ⟨a1, a2, a3⟩ := h1.put0 e2
      refine .bind (m_lays hW hG a1) (fun p ⟨p1, p2, p3, p4, p5⟩ => .let fun x _ => .bind (.val (m_steps hW p2)) (fun q hq => ?_))
      have p0 : p.2 84 0 = 0 := p5.trans a3
      rw [hq, w32_of (by omega) (by omega)]
      refine .bind (.val (isIn_n p.2 (by omega))) (fun z hz => .ifT hz (.bind (throws_yes 1 (by decide) p0) (fun y ⟨y1, y2⟩ => .ifF (by omega) (.ret ?_))))
      obtain ⟨c1, c2, c3⟩ := p3.put0 y2
      exact ⟨c3, fun h => absurd h (by decide), c1, (a2.trans p4).trans c2⟩
