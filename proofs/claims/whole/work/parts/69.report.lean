/-! ===== reports and marks ===== -/
def rsg (T : Tx) (G : Sn) (p : Nat) : Int := if T.1.b p = 10 then 10 else if hd G.1 T.1.b (-1) p ≠ 0 then 35 else if Rof G.1 T.1 p = -1 then 46 else if Pt G.1 T.1 p = -1 then 33 else 48 + ar (Pt G.1 T.1) (Nn T.1) p % T.1.col
theorem CI.rp {T : Tx} {G : Sn} {B : Bx} {M M' : Mem} (hW : WT T) (h : CI T G B M) (e : ∀ c i, c < 84 → c ≠ 77 → ¬ (c = 0 ∧ i = 14) → M' c i = M c i) : CI T G (B.1, B.2.1, B.2.2.1, M' 0 14, M' 77) M' := by
  obtain ⟨h1, h2, h3, h4, h5, h6, h7, h8⟩ := h
  refine ⟨h1.same (fun i => e _ i (by omega) (by omega) (by omega)) (fun i => e _ i (by omega) (by omega) (by omega)) (fun i => e _ i (by omega) (by omega) (by omega)), h2.same hW.2.1.2.1 (fun c i hc => e c i (by omega) (by omega) (by omega)), h3.same (fun c i hc => e c i (by omega) (by omega) (by omega)), h4.same (fun c i hc => e c i (by omega) (by omega) (by omega)), h5.same (fun c i hc => e c i (by omega) (by omega) (by omega)), (e 0 15 (by omega) (by omega) (by omega)).trans h6, ⟨rfl, fun k _ _ => rfl⟩, fun h0 => ?_, fun h0 => ?_⟩
  · exact (h8.1 (by rw [← e 0 16 (by omega) (by omega) (by omega)]; exact h0)).same (fun c i _ _ => e c i (by omega) (by omega) (by omega))
  · exact (h8.2 (by rw [← e 0 17 (by omega) (by omega) (by omega)]; exact h0)).same (fun c i _ => e c i (by omega) (by omega) (by omega))
theorem MoI.rp {T : Tx} {G : Sn} {B : Bx} {M M' : Mem} (h : MoI T G B M) (e : ∀ c i, 84 ≤ c → c < 113 → c ≠ 104 → ¬ (c = 84 ∧ i = 39) → M' c i = M c i) : MoI T G (B.1, B.2.1, B.2.2.1, M' 84 39, M' 104) M' := by
  obtain ⟨h1, h2, h3, h4, h5, h6, h7⟩ := h
  exact ⟨h1.same (fun i => e 90 i (by omega) (by omega) (by omega) (by omega)), h2.same (fun c i hc => e c i (by omega) (by omega) (by omega) (by omega)), h3.same (fun c i hc => e c i (by omega) (by omega) (by omega) (by omega)), h4.same (fun c i hc => e c i (by omega) (by omega) (by omega) (by omega)), h5.same (fun c i hc => e c i (by omega) (by omega) (by omega) (by omega)), (e 84 23 (by omega) (by omega) (by omega) (by omega)).trans h6, ⟨rfl, fun k _ _ => rfl⟩⟩
theorem MF.same {T : Tx} {G : Sn} {M M' : Mem} (h : MF T G M) (e : ∀ c i, (c = 84 ∧ i = 26) ∨ (92 ≤ c ∧ c ≤ 96) → M' c i = M c i) : MF T G M' := by
  obtain ⟨⟨z1, z2, z3, z4, z5⟩, z6⟩ := h
  exact ⟨⟨z1, z2, z3, z4.same (fun c i hc => e c i (by omega)), fun q hq hr => by rw [e 96 _ (by omega)]; exact z5 q hq hr⟩, fun q hq => by rw [e 92 _ (by omega)]; exact z6 q hq⟩
theorem reportSign_ok {T : Tx} {G : Sn} {B : Bx} {M : Mem} (hW : WT T) (hG : WG G) (h : CI T G B M) {p : Nat} (hp : p < Nn T.1) : Ok (f_X9_reportSign p M) (fun r => r.1 = rsg T G p ∧ CI T G B r.2 ∧ FrC M r.2) := by
  have hN := Nn_is hW.1
  have rp := hR_of hG T.1 p
  have c1 := hW.1.2.1.1
  have c9 := hW.1.2.1.2.1
  have bd := ar_bd (Pt G.1 T.1) (Nn T.1) p
  unfold f_X9_reportSign
  refine .bind (.val (pbyteAt_ok 14 p M (by rw [h.1.1]; omega))) (fun q hq => ?_)
  rw [if_pos (by rw [h.1.1]; omega)] at hq
  have hq2 : q = T.1.b p := hq.trans (h.1.2.2.2.2.2.2.1 p (by omega) (by omega))
  refine .ifC (fun h10 => .ret ⟨?_, h, FrC.rf⟩) (fun h10 => ?_)
  · unfold rsg; rw [if_pos (by omega)]
  · have n10 : ¬ T.1.b p = 10 := by omega
    refine .bind (c_readNow hW h) (fun M1 ⟨r1, r2, r3, r4, r5⟩ => .bind (.val (hiddenAs_at hN.2 r1 hp)) (fun x hx => .ifC (fun h0 => ?_) (fun h0 => .ret ⟨?_, r3, r4⟩)))
    · refine .bind (.val (readNow_twice r2)) (fun M2 hM2 => ?_)
      subst hM2
      have hh : ¬ hd G.1 T.1.b (-1) p ≠ 0 := by omega
      refine .bind (Q := fun z => z = lookA T G p 1) ?_ (fun z hz => ?_)
      · unfold f_X5_kindOf
        refine .bind (.val (roleAt_at hN.2 r1.cr hp)) (fun q hq => ?_)
        subst hq
        have e : lookA T G p 1 = if Rof G.1 T.1 p = -1 then -1 else Rof G.1 T.1 p / 2 := rfl
        rw [e]
        refine .ifC (fun hc => .ret (by rw [if_pos hc])) (fun hc => .ret ?_)
        rw [if_neg hc]
        exact idv2 (by omega) (by omega)
      · have e : lookA T G p 1 = if Rof G.1 T.1 p = -1 then -1 else Rof G.1 T.1 p / 2 := rfl
        rw [e] at hz
        refine .ifC (fun hc => .ret ⟨?_, r3, r4⟩) (fun hc => ?_)
        · have : Rof G.1 T.1 p = -1 := by
            by_cases y : Rof G.1 T.1 p = -1
            · exact y
            · rw [if_neg y] at hz; omega
          unfold rsg; rw [if_neg n10, if_neg hh, if_pos this]
        · have nr : ¬ Rof G.1 T.1 p = -1 := fun y => by rw [if_pos y] at hz; omega
          refine .bind (colourOf_at hW r3 hp) (fun r ⟨s1, s2, s3, s4, s5⟩ => .let fun w ew => ?_)
          have e : lookA T G p 5 = if Pt G.1 T.1 p = -1 then -1 else ar (Pt G.1 T.1) (Nn T.1) p % T.1.col := rfl
          rw [e] at s1
          rw [s1] at ew
          have m0 : 0 ≤ ar (Pt G.1 T.1) (Nn T.1) p % T.1.col := Int.emod_nonneg _ (by omega)
          have m1 : ar (Pt G.1 T.1) (Nn T.1) p % T.1.col < T.1.col := Int.emod_lt_of_pos _ (by omega)
          by_cases ht : Pt G.1 T.1 p = -1
          · rw [if_pos ht] at ew
            refine .ifT ew (.ret ⟨?_, s4, r4.trans s5⟩)
            unfold rsg; rw [if_neg n10, if_neg hh, if_neg nr, if_pos ht]
          · rw [if_neg ht] at ew
            refine .ifF (by omega) (.ret ⟨?_, s4, r4.trans s5⟩)
            unfold rsg
            rw [if_neg n10, if_neg hh, if_neg nr, if_neg ht, ← ew]
            exact w32_of (by omega) (by omega)
    · unfold rsg; rw [if_neg n10, if_pos (by omega)]
theorem told_at {T : Tx} {G : Sn} {B : Bx} {M : Mem} (hW : WT T) (hG : WG G) (h : MoI T G B M) (hF : MF T G M) {p : Nat} (hp : p < Nn T.1) : Ok (f_X10_told p M) (fun r => r = rsg T G p) := by
  have hN := Nn_is hW.1
  have c1 := hW.1.2.1.1
  have c9 := hW.1.2.1.2.1
  have bd := ar_bd (Pt G.1 T.1) (Nn T.1) p
  have hh0 := hd_ge (ρ := G.1) T.1.b (-1) p
  have pb : M 90 (14 + (p : Int)) = T.1.b p := by have := h.1.2.2.2.2.2.2.1 p (by omega) (by omega); rw [Int.zero_add] at this; exact this
  have ec : M 90 10 = T.1.col := h.1.2.2.1
  unfold f_X10_told
  rw [w32_of (i := 14 + (p : Int)) (by omega) (by omega), pb, hF.2 p hp, ec]
  refine .ifT (by omega) (.ifC (fun h10 => .ret ?_) (fun h10 => .bind (.val (bracketAt_at hF.1 hp)) (fun u hu => .ifT (by omega) (.ifC (fun h0 => ?_) (fun h0 => .ret ?_)))))
  · unfold rsg; rw [if_pos h10]
  · have hh : ¬ hd G.1 T.1.b (-1) p ≠ 0 := by omega
    by_cases nr : Rof G.1 T.1 p = -1
    · have hb : u = -1 := by rw [hu]; unfold bn; rw [if_pos nr]
      refine .ifT hb (.ret ?_)
      unfold rsg; rw [if_neg h10, if_neg hh, if_pos nr]
    · have b := bn_bd (Rof G.1 T.1) hp nr
      rw [b.2.2] at hu b
      have bN := nb_bd (Rof G.1 T.1) (Nn T.1)
      subst hu
      rw [hF.1.2.2.2.2 p hp nr]
      refine .ifF (by omega) (.ifT (by omega) ?_)
      by_cases ht : Pt G.1 T.1 p = -1
      · refine .ifT (by rw [ht]; exact enc_no _) (.ret ?_)
        unfold rsg; rw [if_neg h10, if_neg hh, if_neg nr, if_pos ht]
      · obtain ⟨q, e1, e2, e3, e4, e5⟩ := (PS_of hG T.1).mate ht
        have bq := nb_bd (Rof G.1 T.1) q
        have m0 : 0 ≤ ar (Pt G.1 T.1) (Nn T.1) p % T.1.col := Int.emod_nonneg _ (by omega)
        have m1 : ar (Pt G.1 T.1) (Nn T.1) p % T.1.col < T.1.col := Int.emod_lt_of_pos _ (by omega)
        refine .ifF (by rw [e1, enc_is]; omega) (.bind (.val (depthAt_at hF.1 p)) (fun d hd => .ifF (by omega) (.ret ?_)))
        rw [hd, irm_pos bd.1 (by omega) (by omega) (by omega), w32_of (by omega) (by omega)]
        unfold rsg
        rw [if_neg h10, if_neg hh, if_neg nr, if_neg ht]
  · unfold rsg; rw [if_neg h10, if_pos (by omega)]
def repB (T : Tx) (G : Sn) (B : Bx) : Bx := (B.1, B.2.1, B.2.2.1, T.1.len, fun k => rsg T G k.toNat)
theorem c_rep_L {T : Tx} {G : Sn} {B : Bx} (hW : WT T) (hG : WG G) (M0 : Mem) : ∀ (r fuel n : Nat) (v : Int) (M : Mem), Nn T.1 - n = r → r < fuel → n ≤ Nn T.1 → v = n → CI T G (B.1, B.2.1, B.2.2.1, T.1.len, M 77) M → (∀ p : Nat, p < n → M 77 p = rsg T G p) → FrC M0 M → Ok (f_X9_report_L13 fuel v M) (fun q => q.1 = T.1.len ∧ CI T G (repB T G B) q.2 ∧ FrC M0 q.2) := by
  have hN := Nn_is hW.1
  intro r
  induction r with
  | zero =>
    intro fuel n v M hr hf hn hv h hq fr
    obtain ⟨fuel, rfl⟩ : ∃ f, fuel = f + 1 := ⟨fuel - 1, by omega⟩
    have e14 : M 0 14 = T.1.len := h.2.2.2.2.2.2.1.1
    rw [f_X9_report_L13]
    refine .ifT (by omega) (.ret ⟨e14, ⟨h.1, h.2.1, h.2.2.1, h.2.2.2.1, h.2.2.2.2.1, h.2.2.2.2.2.1, ⟨e14, fun k k0 k1 => ?_⟩, h.2.2.2.2.2.2.2⟩, fr⟩)
    have k1 : k < T.1.len := k1
    have := hq k.toNat (by omega)
    rw [show ((k.toNat : Nat) : Int) = k by omega] at this
    exact this
  | succ r ih =>
    intro fuel n v M hr hf hn hv h hq fr
    obtain ⟨fuel, rfl⟩ : ∃ f, fuel = f + 1 := ⟨fuel - 1, by omega⟩
    subst hv
    have e14 : M 0 14 = T.1.len := h.2.2.2.2.2.2.1.1
    rw [f_X9_report_L13]
    refine .ifF (by omega) (.ifF (by omega) (.bind (reportSign_ok hW hG h (p := n) (by omega)) (fun s ⟨s1, s2, s3⟩ => .ifT (by omega) (.put fun M1 e1 => .let fun u eu => ?_))))
    rw [w32_of (by omega) (by omega)] at eu
    have k := s2.rp hW (M' := M1) (fun c i _ h77 _ => by rw [e1, if_neg (by omega)])
    have k14 : M1 0 14 = T.1.len := by rw [e1, if_neg (by omega)]; exact s2.2.2.2.2.2.2.1.1
    rw [k14] at k
    refine ih fuel (n + 1) u M1 (by omega) (by omega) (by omega) (by omega) k (fun p hp => ?_) ((fr.trans s3).trans (fun c i hc => by rw [e1, if_neg (by omega)]))
    by_cases e : p = n
    · subst e; rw [e1, if_pos ⟨rfl, rfl⟩, s1]
    · rw [e1, if_neg (by omega)]
      have := s2.2.2.2.2.2.2.1.2 p (by omega) (by show (p : Int) < T.1.len; omega)
      exact this.trans (hq p (by omega))
theorem m_rep_L {T : Tx} {G : Sn} {B : Bx} (hW : WT T) (hG : WG G) (M0 : Mem) : ∀ (r fuel n : Nat) (v : Int) (M : Mem), Nn T.1 - n = r → r < fuel → n ≤ Nn T.1 → v = n → MoI T G (B.1, B.2.1, B.2.2.1, T.1.len, M 104) M → MF T G M → (∀ p : Nat, p < n → M 104 p = rsg T G p) → FrM M0 M → Ok (f_X10_report_L21 fuel v M) (fun q => q.1 = T.1.len ∧ MoI T G (repB T G B) q.2 ∧ FrM M0 q.2) := by
  have hN := Nn_is hW.1
  intro r
  induction r with
  | zero =>
    intro fuel n v M hr hf hn hv h hF hq fr
    obtain ⟨fuel, rfl⟩ : ∃ f, fuel = f + 1 := ⟨fuel - 1, by omega⟩
    have e14 : M 84 39 = T.1.len := h.2.2.2.2.2.2.1
    rw [f_X10_report_L21]
    refine .ifT (by omega) (.ret ⟨e14, ⟨h.1, h.2.1, h.2.2.1, h.2.2.2.1, h.2.2.2.2.1, h.2.2.2.2.2.1, ⟨e14, fun k k0 k1 => ?_⟩⟩, fr⟩)
    have k1 : k < T.1.len := k1
    have := hq k.toNat (by omega)
    rw [show ((k.toNat : Nat) : Int) = k by omega] at this
    exact this
  | succ r ih =>
    intro fuel n v M hr hf hn hv h hF hq fr
    obtain ⟨fuel, rfl⟩ : ∃ f, fuel = f + 1 := ⟨fuel - 1, by omega⟩
    subst hv
    have e14 : M 84 39 = T.1.len := h.2.2.2.2.2.2.1
    rw [f_X10_report_L21]
    refine .ifF (by omega) (.bind (told_at hW hG h hF (p := n) (by omega)) (fun s s1 => .ifT (by omega) (.put fun M1 e1 => .let fun u eu => ?_)))
    rw [w32_of (by omega) (by omega)] at eu
    have k := h.rp (M' := M1) (fun c i _ _ h77 _ => by rw [e1, if_neg (by omega)])
    have k14 : M1 84 39 = T.1.len := by rw [e1, if_neg (by omega)]; exact e14
    rw [k14] at k
    refine ih fuel (n + 1) u M1 (by omega) (by omega) (by omega) (by omega) k (hF.same (fun c i hc => by rw [e1, if_neg (by omega)])) (fun p hp => ?_) (fr.trans (fun c i hc => by rw [e1, if_neg (by omega)]))
    by_cases e : p = n
    · subst e; rw [e1, if_pos ⟨rfl, rfl⟩, s1]
    · rw [e1, if_neg (by omega)]
      exact hq p (by omega)
theorem law_20_ok {T : Tx} {G : Sn} {B : Bx} {M : Mem} (hW : WT T) (hG : WG G) (hC : CI T G B M) (hM : MoI T G B M) : Ok (f_law_20 M) (fun M' => CI T G (repB T G B) M' ∧ MoI T G (repB T G B) M') := by
  have hN := Nn_is hW.1
  unfold f_law_20
  refine lawV T.1.len hM hW ?_ (fun M1 h1 => ?_)
  · unfold f_X9_report
    rw [hC.1.1]
    refine .put fun M1 e1 => ?_
    have k := hC.rp hW (M' := M1) (fun c i _ _ h14 => by rw [e1, if_neg (by omega)])
    have k14 : M1 0 14 = T.1.len := by rw [e1, if_pos ⟨rfl, rfl⟩]
    rw [k14] at k
    exact c_rep_L hW hG M (Nn T.1) 4096 0 0 M1 (by omega) (by omega) (by omega) rfl k (fun p hp => by omega) (fun c i hc => by rw [e1, if_neg (by omega)])
  · unfold f_X10_report
    refine .put fun M2 e2 => ?_
    obtain ⟨a1, a2, a3⟩ := h1.put0 e2
    refine .bind (m_find hW hG a1) (fun M3 ⟨b1, b2, b3, b4, b5⟩ => ?_)
    have p0 : M3 90 0 = T.1.len := b2.1.1
    rw [p0]
    refine .put fun M4 e4 => ?_
    have k := b2.rp (M' := M4) (fun c i _ _ _ h39 => by rw [e4, if_neg (by omega)])
    have k14 : M4 84 39 = T.1.len := by rw [e4, if_pos ⟨rfl, rfl⟩]
    rw [k14] at k
    exact m_rep_L hW hG M1 (Nn T.1) 4096 0 0 M4 (by omega) (by omega) (by omega) rfl k (b1.same (fun c i hc => by rw [e4, if_neg (by omega)])) (fun p hp => by omega) ((a2.trans b3).trans (fun c i hc => by rw [e4, if_neg (by omega)]))
theorem law_21_ok {T : Tx} {G : Sn} {B : Bx} {M : Mem} (v1 : Int) (hW : WT T) (hB : WB B) (hC : CI T G B M) (hM : MoI T G B M) : Ok (f_law_21 v1 M) (fun M' => CI T G B M' ∧ MoI T G B M') := by
  have r0 := hB.2.2.2.1
  have r1 := hB.2.2.2.2
  have c14 : M 0 14 = B.2.2.2.1 := hC.2.2.2.2.2.2.1.1
  unfold f_law_21
  refine .bind (Q := fun x => x = if 0 ≤ v1 ∧ v1 < B.2.2.2.1 then B.2.2.2.2 v1 else -1) ?_ (fun x hx => .bind (Q := fun q => q.1 = (if 0 ≤ v1 ∧ v1 < B.2.2.2.1 then B.2.2.2.2 v1 else -1) ∧ CI T G B q.2 ∧ MoI T G B q.2) ?_ (fun q ⟨q1, q2, q3⟩ => .ifT (by rw [hx, q1]) (.ret ⟨q2, q3⟩)))
  · unfold f_X9_reportByte
    rw [c14]
    refine .ifC (fun h => .ret (by rw [if_neg (by omega)])) (fun h => .ifC (fun h2 => .ret (by rw [if_neg (by omega)])) (fun h2 => .ifF (by omega) (.ifT (by omega) (.ret ?_))))
    rw [if_pos (by omega)]
    exact hC.2.2.2.2.2.2.1.2 v1 (by omega) (by omega)
  · unfold f_X10_reportByte
    refine .put fun M1 e1 => ?_
    obtain ⟨a1, a2, a3⟩ := hM.put0 e1
    have m39 : M1 84 39 = B.2.2.2.1 := a1.2.2.2.2.2.2.1
    have c1 : CI T G B M1 := CI.same hW hC (fun c i hc => a2 c i (Or.inl hc))
    rw [m39, w32_of (by omega) (by omega)]
    by_cases hc : 0 ≤ v1 ∧ v1 < B.2.2.2.1
    · rw [if_pos hc]
      exact .bind (.val (isIn_y M1 (by omega))) (fun z hz => .ifF (by omega) (.ifT (by omega) (.ret ⟨a1.2.2.2.2.2.2.2 v1 hc.1 hc.2, c1, a1⟩)))
    · rw [if_neg hc]
      exact .bind (.val (isIn_n M1 (by omega))) (fun z hz => .ifT hz (.ret ⟨rfl, c1, a1⟩))
theorem placeOfMark_at {P : Pg} (hW : Wf P) {M : Mem} (hP : PgC M 14 P) {v : Int} (hv : 0 ≤ v ∧ v < P.mk) : f_X4_placeOfMark 14 v M = some (P.m v) := by
  have := hW.m1
  unfold f_X4_placeOfMark
  rw [hP.2.1, if_neg (by omega), if_neg (by omega), if_pos (by omega)]
  exact congrArg some (hP.2.2.2.2.2.2.2 v hv.1 hv.2)
theorem askMark_y {P : Pg} {M : Mem} (hP : PgC M 14 P) {v : Int} (hv : 0 ≤ v ∧ v < P.mk) : f_X9_askMark v M = some (0, 0, M) := by
  unfold f_X9_askMark
  rw [hP.2.1, if_neg (by omega), if_pos (by omega)]
theorem askMark_n {P : Pg} {M : Mem} (hP : PgC M 14 P) {v : Int} (hv : ¬ (0 ≤ v ∧ v < P.mk)) : f_X9_askMark v M = some (1, 0, M) := by
  unfold f_X9_askMark
  rw [hP.2.1]
  by_cases h : v < 0
  · rw [if_pos h]
  · rw [if_neg h, if_neg (by omega)]
theorem law_19_ok {T : Tx} {G : Sn} {B : Bx} {M : Mem} (v1 : Int) (hW : WT T) (hC : CI T G B M) (hM : MoI T G B M) : Ok (f_law_19 v1 M) (fun M' => CI T G B M' ∧ MoI T G B M') := by
  have m0 := hW.1.m0
  have m1 := hW.1.m1
  unfold f_law_19 f_L_markAt
  by_cases hv : 0 ≤ v1 ∧ v1 < T.1.mk
  · refine lawW 0 0 (T.1.m v1) hM ?_ hW (fun _ _ => rfl) (by decide) (fun M1 h1 => ?_)
    · unfold f_X9_markAt
      refine .bind (.val (askMark_y hC.1 hv)) (fun z hz => ?_)
      subst hz
      exact .ifT rfl (.bind (.val (placeOfMark_at hW.1 hC.1 hv)) (fun q hq => .ret ⟨rfl, fun _ => hq, hC, FrC.rf⟩))
    · unfold f_X10_markAt
      refine .put fun M2 e2 => ?_
      obtain ⟨a1, a2, a3⟩ := h1.put0 e2
      have p1 : M2 90 1 = T.1.mk := a1.1.2.1
      rw [p1, w32_of (i := T.1.mk - 1) (by omega) (by omega), w32_of (i := 2 + v1) (by omega) (by omega)]
      refine .bind (.val (isIn_y M2 (by omega))) (fun z hz => .ifF (by omega) (.bind (.val (throws_no 1 a3)) (fun p hp => ?_)))
      subst hp
      refine .ifT rfl (.ifT (by omega) (.ret ⟨a3, fun _ => ?_, a1, a2⟩))
      have := a1.1.2.2.2.2.2.2.2 v1 hv.1 hv.2
      rw [Int.zero_add] at this
      exact this
  · refine lawW 1 1 0 hM ?_ hW (fun _ _ => rfl) (by decide) (fun M1 h1 => ?_)
    · unfold f_X9_markAt
      refine .bind (.val (askMark_n hC.1 hv)) (fun z hz => ?_)
      subst hz
      exact .ifF (by show ¬ (1 : Nat) = 0; decide) (.ret ⟨rfl, fun h => absurd h (by decide), hC, FrC.rf⟩)
    · unfold f_X10_markAt
      refine .put fun M2 e2 => ?_
      obtain ⟨a1, a2, a3⟩ := h1.put0 e2
      have p1 : M2 90 1 = T.1.mk := a1.1.2.1
      rw [p1, w32_of (i := T.1.mk - 1) (by omega) (by omega)]
      refine .bind (.val (isIn_n M2 (by omega))) (fun z hz => .ifT hz (.bind (throws_yes 1 (by decide) a3) (fun p ⟨p1, p2⟩ => .ifF (by omega) (.ret ?_))))
      obtain ⟨c1, c2, c3⟩ := a1.put0 p2
      exact ⟨c3, fun h => absurd h (by decide), c1, a2.trans c2⟩
