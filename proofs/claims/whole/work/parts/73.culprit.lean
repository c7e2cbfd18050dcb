/-! ===== law 18 ===== -/
def CulP (tot : Int) (c : Nat → Int) (N : Nat) (res : Int) : Prop := (res = -1 ∧ ∀ p : Nat, p < N → tot ≤ c p) ∨ ∃ q : Nat, res = q ∧ q < N ∧ c q < tot ∧ (∀ p : Nat, p < N → c q ≤ c p) ∧ ∀ p : Nat, p < q → c q < c p
theorem CulP_one {tot : Int} {c : Nat → Int} {N : Nat} {a b : Int} (ha : CulP tot c N a) (hb : CulP tot c N b) : a = b := by
  rcases ha with ⟨a1, a2⟩ | ⟨q, a1, a2, a3, a4, a5⟩
  · rcases hb with ⟨b1, b2⟩ | ⟨z, b1, b2, b3, b4, b5⟩
    · omega
    · have := a2 z b2; omega
  · rcases hb with ⟨b1, b2⟩ | ⟨z, b1, b2, b3, b4, b5⟩
    · have := b2 q a2; omega
    · by_cases h1 : q < z
      · have := b5 q h1; have := a4 z b2; omega
      · by_cases h2 : z < q
        · have := a5 z h2; have := b4 q a2; omega
        · omega
theorem CulP_ex (tot : Int) (c : Nat → Int) : ∀ N : Nat, ∃ res, CulP tot c N res := by
  intro N
  induction N with
  | zero => exact ⟨-1, Or.inl ⟨rfl, fun p hp => by omega⟩⟩
  | succ N ih =>
    obtain ⟨res, ⟨a1, a2⟩ | ⟨q, a1, a2, a3, a4, a5⟩⟩ := ih
    · by_cases h : c N < tot
      · refine ⟨(N : Int), Or.inr ⟨N, rfl, by omega, h, fun p hp => ?_, fun p hp => ?_⟩⟩
        · by_cases e : p = N
          · subst e; exact Int.le_refl _
          · have := a2 p (by omega); omega
        · have := a2 p hp; omega
      · refine ⟨-1, Or.inl ⟨rfl, fun p hp => ?_⟩⟩
        by_cases e : p = N
        · subst e; omega
        · exact a2 p (by omega)
    · by_cases h : c N < c q
      · refine ⟨(N : Int), Or.inr ⟨N, rfl, by omega, by omega, fun p hp => ?_, fun p hp => ?_⟩⟩
        · by_cases e : p = N
          · subst e; exact Int.le_refl _
          · have := a4 p (by omega); omega
        · have := a4 p hp; omega
      · refine ⟨q, Or.inr ⟨q, rfl, by omega, a3, fun p hp => ?_, a5⟩⟩
        by_cases e : p = N
        · subst e; omega
        · exact a4 p (by omega)
/-- the best of the first n -/
def MCu (T : Tx) (G : Sn) (n : Nat) (a b : Int) : Prop := (b = -1 ∧ a = Tot G.1 T.1 ∧ ∀ p : Nat, p < n → Tot G.1 T.1 ≤ TotS G.1 T.1 (p : Nat)) ∨ ∃ q : Nat, b = q ∧ a = TotS G.1 T.1 (q : Nat) ∧ q < n ∧ TotS G.1 T.1 (q : Nat) < Tot G.1 T.1 ∧ (∀ p : Nat, p < n → TotS G.1 T.1 (q : Nat) ≤ TotS G.1 T.1 (p : Nat)) ∧ ∀ p : Nat, p < q → TotS G.1 T.1 (q : Nat) < TotS G.1 T.1 (p : Nat)
def Atn (T : Tx) (G : Sn) (s0 : Int) (n : Nat) (a : Int) : Prop := a = s0 ∨ ∃ p : Nat, p < n ∧ a = 256 * TotS G.1 T.1 (p : Nat) + p
/-- the model's search -/
theorem m_cul_L {T : Tx} {G : Sn} {B : Bx} (hW : WT T) (hG : WG G) {val : Int} (hv : CulP (Tot G.1 T.1) (fun p => TotS G.1 T.1 (p : Nat)) (Nn T.1) val) (M0 : Mem) : ∀ (r fuel n : Nat) (a b v : Int) (M : Mem), Nn T.1 - n = r → r < fuel → n ≤ Nn T.1 → v = n →
    MCu T G n a b →
    MoI T G B M → FrM M0 M → Ok (f_X10_culprit_L15 fuel a b v M) (fun q => q.1 = val ∧ MoI T G B q.2 ∧ FrM M0 q.2) := by
  have hN := Nn_is hW.1
  have fin : ∀ (n : Nat) (a b : Int), (n = Nn T.1 ∨ a ≤ 0) → n ≤ Nn T.1 → MCu T G n a b → b = val := by
    intro n a b hn hle h
    refine CulP_one ?_ hv
    rcases h with ⟨h1, h2, h3⟩ | ⟨q, h1, h2, h3, h4, h5, h6⟩
    · refine Or.inl ⟨h1, fun p hp => ?_⟩
      rcases hn with hn | hn
      · exact h3 p (by omega)
      · have := (TotS_bd (G := G) hW.1 (p : Nat)).1
        show Tot G.1 T.1 ≤ TotS G.1 T.1 (p : Nat)
        omega
    · refine Or.inr ⟨q, h1, by omega, h4, fun p hp => ?_, h6⟩
      rcases hn with hn | hn
      · exact h5 p (by omega)
      · have := (TotS_bd (G := G) hW.1 (p : Nat)).1
        show TotS G.1 T.1 (q : Nat) ≤ TotS G.1 T.1 (p : Nat)
        omega
  intro r
  induction r with
  | zero =>
    intro fuel n a b v M hr hf hn hv2 h hM fr
    obtain ⟨fuel, rfl⟩ : ∃ f, fuel = f + 1 := ⟨fuel - 1, by omega⟩
    have p0 : M 90 0 = T.1.len := hM.1.1
    rw [f_X10_culprit_L15]
    exact .ifT (by omega) (.ret ⟨fin n a b (Or.inl (by omega)) hn h, hM, fr⟩)
  | succ r ih =>
    intro fuel n a b v M hr hf hn hv2 h hM fr
    obtain ⟨fuel, rfl⟩ : ∃ f, fuel = f + 1 := ⟨fuel - 1, by omega⟩
    subst hv2
    have p0 : M 90 0 = T.1.len := hM.1.1
    rw [f_X10_culprit_L15]
    refine .ifF (by omega) (.ifC (fun h0 => .ret ⟨fin n a b (Or.inr h0) hn h, hM, fr⟩) (fun h0 => .bind (m_skip n hW hG hM) (fun p ⟨p1, p2, p3, p4⟩ => .let fun x ex => ?_)))
    rw [p1] at ex
    subst ex
    refine .ifC (fun hc => .let fun u eu => ?_) (fun hc => .let fun u eu => ?_)
    · rw [w32_of (by omega) (by omega)] at eu
      refine ih fuel (n + 1) a b u p.2 (by omega) (by omega) (by omega) (by omega) ?_ p2 (fr.trans p3)
      rcases h with ⟨h1, h2, h3⟩ | ⟨q, h1, h2, h3, h4, h5, h6⟩
      · refine Or.inl ⟨h1, h2, fun p hp => ?_⟩
        by_cases e : p = n
        · subst e; omega
        · exact h3 p (by omega)
      · refine Or.inr ⟨q, h1, h2, by omega, h4, fun p hp => ?_, h6⟩
        by_cases e : p = n
        · subst e; omega
        · exact h5 p (by omega)
    · rw [w32_of (by omega) (by omega)] at eu
      refine ih fuel (n + 1) _ _ u p.2 (by omega) (by omega) (by omega) (by omega) ?_ p2 (fr.trans p3)
      rcases h with ⟨h1, h2, h3⟩ | ⟨q, h1, h2, h3, h4, h5, h6⟩
      · refine Or.inr ⟨n, rfl, rfl, by omega, by omega, fun p hp => ?_, fun p hp => ?_⟩
        · by_cases e : p = n
          · subst e; exact Int.le_refl _
          · have := h3 p (by omega); omega
        · have := h3 p hp; omega
      · refine Or.inr ⟨n, rfl, rfl, by omega, by omega, fun p hp => ?_, fun p hp => ?_⟩
        · by_cases e : p = n
          · subst e; exact Int.le_refl _
          · have := h5 p (by omega); omega
        · have := h5 p hp; omega
/-- bytes that the class tries one by one -/
def spc (T : Tx) (G : Sn) (p : Nat) : Prop := hd G.1 T.1.b (-1) p ≠ 0 ∨ T.1.b p = 10
theorem idv256 {v : Int} (h0 : 0 ≤ v) (h1 : v ≤ 1000000000) : idv v 256 = v / 256 := by
  unfold idv
  rw [Int.tdiv_eq_ediv_of_nonneg h0, w32_of (by omega) (by omega)]
theorem irm256 {v : Int} (h0 : 0 ≤ v) (h1 : v ≤ 1000000000) : irm v 256 = v % 256 := by
  unfold irm
  rw [Int.tdiv_eq_ediv_of_nonneg h0, w32_of (i := v / 256) (by omega) (by omega), w32_of (i := v / 256 * 256) (by omega) (by omega), w32_of (by omega) (by omega)]
  omega
theorem c_cul_L {T : Tx} {G : Sn} {B : Bx} (hW : WT T) (hG : WG G) {val : Int} (hv : CulP (Tot G.1 T.1) (fun p => TotS G.1 T.1 (p : Nat)) (Nn T.1) val) (s0 : Int) (hs : LeS (Rr G.1 T.1) (plI (Rof G.1 T.1) (Nn T.1)) (Al T.1) T.1.chg 0 (Kk G.1 T.1) s0) (hK : 0 < Kk G.1 T.1) (M0 : Mem) : ∀ (r fuel n : Nat) (a v : Int) (M : Mem), Nn T.1 - n = r → r < fuel → n ≤ Nn T.1 → v = n →
    (a ≤ s0 ∧ (∀ p : Nat, p < n → spc T G p → a ≤ 256 * TotS G.1 T.1 (p : Nat) + p) ∧ Atn T G s0 n a) →
    CI T G B M → FrC M0 M → Ok (f_X9_culprit_L28 fuel (Tot G.1 T.1) a v M) (fun q => q.1 = val ∧ CI T G B q.2 ∧ FrC M0 q.2) := by
  have hN := Nn_is hW.1
  obtain ⟨w1, w2, w3, w4, w5, w6, w7, w8⟩ := hW.1.2.1
  have al := alp_bd (dr := T.1.drop) (gv := T.1.give) (by omega)
  have pb := plI_bd (Rof G.1 T.1) hN.2
  obtain ⟨_, hs2⟩ := hs
  obtain ⟨low, e, e0, e1, e2⟩ := hs2 hK
  have brk : ∀ k : Nat, k < Kk G.1 T.1 → ∃ p : Nat, p < Nn T.1 ∧ Rof G.1 T.1 p ≠ -1 ∧ plI (Rof G.1 T.1) (Nn T.1) k = p ∧ (nb (Rof G.1 T.1) p).toNat = k ∧ TotS G.1 T.1 (p : Nat) = Ec (Rr G.1 T.1) (Al T.1) T.1.chg k 0 (Kk G.1 T.1) := by
    intro k hk
    have hk2 : (k : Int) < nb (Rof G.1 T.1) (Nn T.1) := by have := kk_is (Rof G.1 T.1) (Nn T.1); have : k < kk (Rof G.1 T.1) (Nn T.1) := hk; omega
    obtain ⟨p, a, b, c, d, _⟩ := plc_is hk2
    refine ⟨p, a, b, by unfold plI; rw [d], by omega, ?_⟩
    rw [TotS_br a b, show (nb (Rof G.1 T.1) p).toNat = k by omega]
  have s_is : ∃ p : Nat, p < Nn T.1 ∧ s0 = 256 * TotS G.1 T.1 (p : Nat) + p := by
    obtain ⟨p, a, b, c, d, f⟩ := brk e e1
    exact ⟨p, a, by rw [e2, c, f]⟩
  have s_le : ∀ p : Nat, p < Nn T.1 → Rof G.1 T.1 p ≠ -1 → s0 ≤ 256 * TotS G.1 T.1 (p : Nat) + p := by
    intro p hp hr
    have lp := nb_lt hp hr
    have bp := nb_bd (Rof G.1 T.1) p
    have k1 := kk_is (Rof G.1 T.1) (Nn T.1)
    have hk : (nb (Rof G.1 T.1) p).toNat < Kk G.1 T.1 := by unfold Kk; omega
    have l := low (nb (Rof G.1 T.1) p).toNat (by omega) hk
    have pl : plI (Rof G.1 T.1) (Nn T.1) (nb (Rof G.1 T.1) p).toNat = p := by unfold plI; rw [plc_nb (Nn T.1) p _ hp hr (by omega)]
    rw [pl, ← TotS_br hp hr] at l
    exact l
  have fin : ∀ (a : Int) (M : Mem), (a ≤ s0 ∧ (∀ p : Nat, p < Nn T.1 → spc T G p → a ≤ 256 * TotS G.1 T.1 (p : Nat) + p) ∧ Atn T G s0 (Nn T.1) a) → CI T G B M → FrC M0 M → Ok (f_X9_culprit_K83 (Tot G.1 T.1) a M) (fun q => q.1 = val ∧ CI T G B q.2 ∧ FrC M0 q.2) := by
    intro a M ⟨h1, h2, h3⟩ hC fr
    obtain ⟨q, q1, q2⟩ : ∃ p : Nat, p < Nn T.1 ∧ a = 256 * TotS G.1 T.1 (p : Nat) + p := by
      rcases h3 with h | h
      · rw [h]; exact s_is
      · exact h
    have tq := TotS_bd (G := G) hW.1 (q : Nat)
    have hi : idv a 256 = TotS G.1 T.1 (q : Nat) := by rw [idv256 (by omega) (by omega)]; omega
    have hm : irm a 256 = q := by rw [irm256 (by omega) (by omega)]; omega
    have all : ∀ p : Nat, p < Nn T.1 → a ≤ 256 * TotS G.1 T.1 (p : Nat) + p ∨ TotS G.1 T.1 (p : Nat) = Tot G.1 T.1 := by
      intro p hp
      by_cases hr : Rof G.1 T.1 p = -1
      · by_cases hh : spc T G p
        · exact Or.inl (h2 p hp hh)
        · refine Or.inr (TotS_un ?_ ?_ hr)
          · by_cases x : hd G.1 T.1.b (-1) p = 0
            · exact x
            · exact absurd (Or.inl x) hh
          · exact fun x => hh (Or.inr x)
      · have := s_le p hp hr
        exact Or.inl (by omega)
    unfold f_X9_culprit_K83 f_X2_costIn f_X2_placeIn
    refine .bind (.val rfl) (fun z hz => ?_)
    rw [hi] at hz
    subst hz
    refine .ifC (fun hc => .ret ⟨CulP_one (Or.inl ⟨rfl, fun p hp => ?_⟩) hv, hC, fr⟩) (fun hc => .bind (.val rfl) (fun z hz => .ret ⟨CulP_one (Or.inr ⟨q, hz.trans hm, q1, by show TotS G.1 T.1 (q : Nat) < Tot G.1 T.1; omega, fun p hp => ?_, fun p hp => ?_⟩) hv, hC, fr⟩))
    · show Tot G.1 T.1 ≤ TotS G.1 T.1 (p : Nat)
      have := all p hp
      omega
    · show TotS G.1 T.1 (q : Nat) ≤ TotS G.1 T.1 (p : Nat)
      have := all p hp
      omega
    · show TotS G.1 T.1 (q : Nat) < TotS G.1 T.1 (p : Nat)
      have := all p (by omega)
      omega
  intro r
  induction r with
  | zero =>
    intro fuel n a v M hr hf hn hv2 h hC fr
    obtain ⟨fuel, rfl⟩ : ∃ f, fuel = f + 1 := ⟨fuel - 1, by omega⟩
    have p0 : M 14 2 = T.1.len := hC.1.1
    have : n = Nn T.1 := by omega
    subst this
    rw [f_X9_culprit_L28]
    exact .ifT (by omega) (fin a M h hC fr)
  | succ r ih =>
    intro fuel n a v M hr hf hn hv2 h hC fr
    obtain ⟨fuel, rfl⟩ : ∃ f, fuel = f + 1 := ⟨fuel - 1, by omega⟩
    subst hv2
    have p0 : M 14 2 = T.1.len := hC.1.1
    have tn := TotS_bd (G := G) hW.1 (n : Nat)
    obtain ⟨h1, h2, h3⟩ := h
    have skip : ¬ spc T G n → ∀ (u : Int) (M1 : Mem), u = ((n + 1 : Nat) : Int) → CI T G B M1 → FrC M0 M1 → Ok (f_X9_culprit_L28 fuel (Tot G.1 T.1) a u M1) (fun q => q.1 = val ∧ CI T G B q.2 ∧ FrC M0 q.2) := by
      intro hx u M1 hu hC1 fr1
      refine ih fuel (n + 1) a u M1 (by omega) (by omega) (by omega) hu ⟨h1, fun p hp hsp => ?_, ?_⟩ hC1 fr1
      · by_cases e : p = n
        · subst e; exact absurd hsp hx
        · exact h2 p (by omega) hsp
      · rcases h3 with h3 | ⟨p, p1, p2⟩
        · exact Or.inl h3
        · exact Or.inr ⟨p, by omega, p2⟩
    have take : ∀ (M1 : Mem), CI T G B M1 → FrC M0 M1 → Ok ((f_X9_costSkipping n M1).bind fun p66 => (f_X2_placed p66.1 n p66.2).bind fun p70 => lt1 (if p70 < a then p70 else a) fun x73 => lt1 (w32 ((n : Int) + 1)) fun v3_77 => f_X9_culprit_L28 fuel (Tot G.1 T.1) x73 v3_77 p66.2) (fun q => q.1 = val ∧ CI T G B q.2 ∧ FrC M0 q.2) := by
      intro M1 hC1 fr1
      refine .bind (c_skip n hW hG hC1) (fun p ⟨p1, p2, p3⟩ => ?_)
      rw [p1]
      refine .bind (.val (placed_at p.2 (by omega) (by omega))) (fun z hz => .let fun x ex => .let fun u eu => ?_)
      subst hz
      rw [w32_of (by omega) (by omega)] at eu
      have x1 : x ≤ a ∧ x ≤ 256 * TotS G.1 T.1 (n : Nat) + n ∧ (x = a ∨ x = 256 * TotS G.1 T.1 (n : Nat) + n) := by split at ex <;> omega
      refine ih fuel (n + 1) x u p.2 (by omega) (by omega) (by omega) (by omega) ⟨by omega, fun p hp hsp => ?_, ?_⟩ p2 (fr1.trans p3)
      · by_cases e : p = n
        · subst e; exact x1.2.1
        · have := h2 p (by omega) hsp; omega
      · rcases x1.2.2 with hx | hx
        · rw [hx]
          rcases h3 with h3 | ⟨p, p1, p2⟩
          · exact Or.inl h3
          · exact Or.inr ⟨p, by omega, p2⟩
        · exact Or.inr ⟨n, by omega, hx⟩
    rw [f_X9_culprit_L28]
    refine .ifF (by omega) (.bind (c_readNow hW hC) (fun M1 ⟨r1, r2, r3, r4, r5⟩ => .bind (.val (hiddenAs_at hN.2 r1 (p := n) (by omega))) (fun z hz => .ifC (fun h0 => ?_) (fun h0 => take M1 r3 (fr.trans r4)))))
    refine .bind (.val (pbyteAt_ok 14 n M1 (by rw [r3.1.1]; omega))) (fun y hy => ?_)
    rw [if_pos (by rw [r3.1.1]; omega)] at hy
    have hyb : y = T.1.b n := hy.trans (r3.1.2.2.2.2.2.2.1 n (by omega) (by omega))
    refine .ifC (fun _ => take M1 r3 (fr.trans r4)) (fun h10 => .let fun u eu => ?_)
    rw [w32_of (by omega) (by omega)] at eu
    exact skip (fun c => c.elim (fun x => x (by omega)) (fun x => h10 (by omega))) u M1 (by omega) r3 (fr.trans r4)
theorem law_18_ok {T : Tx} {G : Sn} {B : Bx} {M : Mem} (hW : WT T) (hG : WG G) (hC : CI T G B M) (hM : MoI T G B M) : Ok (f_law_18 M) (fun M' => CI T G B M' ∧ MoI T G B M') := by
  have hN := Nn_is hW.1
  have hKk := Kk_le G.1 hW.1
  obtain ⟨w1, w2, w3, w4, w5, w6, w7, w8⟩ := hW.1.2.1
  have al := alp_bd (dr := T.1.drop) (gv := T.1.give) (by omega)
  have tb : 0 ≤ Tot G.1 T.1 := (TotS_bd (G := G) hW.1 (-1)).1
  obtain ⟨val, hv⟩ := CulP_ex (Tot G.1 T.1) (fun p => TotS G.1 T.1 (p : Nat)) (Nn T.1)
  unfold f_law_18
  refine lawV val hM hW ?_ (fun M1 h1 => ?_)
  · unfold f_X9_culprit
    refine .bind (c_mendNow hW hG hC) (fun M1 ⟨m1, m2, m3, m4⟩ => .let fun x ex => ?_)
    rw [m1.1] at ex
    subst ex
    refine .ifC (fun h0 => .ret ⟨CulP_one (Or.inl ⟨rfl, fun p hp => ?_⟩) hv, m3, m4⟩) (fun h0 => ?_)
    · have := (TotS_bd (G := G) hW.1 (p : Nat)).1
      show Tot G.1 T.1 ≤ TotS G.1 T.1 (p : Nat)
      omega
    · have hK : 0 < Kk G.1 T.1 := by
        by_cases x : Kk G.1 T.1 = 0
        · exact absurd (by unfold Tot; rw [x]; exact Cs_no _ _ _ (Nat.le_refl _)) h0
        · omega
      refine .bind (c_readNow hW m3) (fun M2 ⟨r1, r2, r3, r4, r5⟩ => ?_)
      have m1' : MdV G.1 T.1 M2 := m1.same (fun c i hc => r5 c i (by unfold RZ; omega))
      refine .bind (Q := fun p => LeS (Rr G.1 T.1) (plI (Rof G.1 T.1) (Nn T.1)) (Al T.1) T.1.chg 0 (Kk G.1 T.1) p.1 ∧ CI T G B p.2 ∧ FrC M2 p.2) ?_ (fun p ⟨p1, p2, p3⟩ => .let fun y ey => ?_)
      · unfold f_X2_leastSpared
        refine .bind (ccostOf_ok hN.2 (hR_of hG T.1) (al := Al T.1) (ch := T.1.chg) al (by omega) 54 (Or.inl rfl) M2 r1.1 (fun p hp => (r1.2.2.2.2.2 p hp).2.1) m1'.2.2.1 m1'.2.2.2) (fun p ⟨c1, c2, c3, c4⟩ => ?_)
        refine (ls_L8 hN.2 (hR_of hG T.1) (al := Al T.1) (ch := T.1.chg) al (by omega) p.2 (kk (Rof G.1 T.1) (Nn T.1) + 1) 4096 0 0 p.2 (by omega) (by have : kk (Rof G.1 T.1) (Nn T.1) ≤ 240 := hKk; omega) (by omega) rfl c2 (by rw [c4 66 13 (by unfold CZ MZ; omega)]; exact m1'.2.2.1) (by rw [c4 66 15 (by unfold CZ MZ; omega)]; exact m1'.2.2.2) c3 (fun j' j0 => by omega) (fun c i _ => rfl)).mono (fun q ⟨q1, q2⟩ => ⟨q1, ?_, fun c i hc => ?_⟩)
        · have z : ∀ c i, ¬ CZ c i → c ≠ 71 → q.2 c i = M2 c i := fun c i h1 h2 => (q2 c i h2).trans (c4 c i h1)
          exact r3.q hW (fun c i hc hq => z c i (by unfold QC at hq; unfold CZ MZ; omega) (by unfold QC at hq; omega)) ⟨fun _ => r1.same (fun c i _ _ => z c i (by unfold CZ MZ; omega) (by omega)), fun _ => m1'.same (fun c i hc => z c i (by unfold CZ MZ; omega) (by omega))⟩
        · rw [q2 c i (by omega), c4 c i (by unfold CZ MZ; omega)]
      · subst ey
        exact c_cul_L hW hG hv p.1 p1 hK M (Nn T.1) 4096 0 p.1 0 p.2 (by omega) (by omega) (by omega) rfl ⟨Int.le_refl _, fun p hp => by omega, Or.inl rfl⟩ p2 ((m4.trans r4).trans p3)
  · unfold f_X10_culprit
    refine .put fun M2 e2 => ?_
    obtain ⟨a1, a2, a3⟩ := h1.put0 e2
    refine .bind (m_skip (-1) hW hG a1) (fun p ⟨p1, p2, p3, p4⟩ => .let fun x ex => ?_)
    exact m_cul_L hW hG hv M1 (Nn T.1) 4096 0 x (-1) 0 p.2 (by omega) (by omega) (by omega) rfl (Or.inl ⟨rfl, ex.trans p1, fun p hp => by omega⟩) p2 (a2.trans p3)
