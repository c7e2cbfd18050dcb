/-! ===== a text without a byte ===== -/
def TotS (ρ : Int → Int) (P : Pg) (sk : Int) : Int := Cs (ro (rl ρ P.b sk) (Nn P)) (Al P) P.chg 0 (kk (rl ρ P.b sk) (Nn P))
theorem nb_congr {R R' : Nat → Int} {N : Nat} (h : ∀ p : Nat, p < N → R p = R' p) : ∀ n : Nat, n ≤ N → nb R n = nb R' n := fun n hn => sm_congr n (fun k hk => by show (if R k = -1 then (0 : Int) else 1) = if R' k = -1 then 0 else 1; rw [h k (by omega)])
theorem plc_congr {R R' : Nat → Int} {N : Nat} (h : ∀ p : Nat, p < N → R p = R' p) : ∀ (n k : Nat), n ≤ N → plc R n k = plc R' n k := by
  intro n
  induction n with
  | zero => intro k _; rfl
  | succ n ih =>
    intro k hn
    rw [plc, plc, ih k (by omega), h n (by omega), nb_congr h n (by omega)]
theorem TotS_same {ρ : Int → Int} {P : Pg} {sk : Int} (h : ∀ p : Nat, p < Nn P → rl ρ P.b sk p = Rof ρ P p) : TotS ρ P sk = Tot ρ P := by
  have ek : kk (rl ρ P.b sk) (Nn P) = Kk ρ P := by unfold Kk kk; rw [nb_congr h (Nn P) (Nat.le_refl _)]
  unfold TotS Tot
  rw [ek]
  refine Cs_congr _ 0 (Kk ρ P) rfl (fun k _ k1 => ?_)
  have k1' : (k : Int) < nb (Rof ρ P) (Nn P) := by have := kk_is (Rof ρ P) (Nn P); have : k < kk (Rof ρ P) (Nn P) := k1; omega
  obtain ⟨p, a, _, _, d, _⟩ := plc_is k1'
  show rl ρ P.b sk (plc (rl ρ P.b sk) (Nn P) k) = Rof ρ P (plc (Rof ρ P) (Nn P) k)
  rw [plc_congr h (Nn P) k (Nat.le_refl _), d]
  exact h p a
theorem hasBr_L {R R' : Nat → Int} {N : Nat} (hN : N ≤ 240) {M : Mem} (h5 : M 60 5 = N) (h6 : ∀ p : Nat, p < N → M 62 p = R' p) (hR : CR R N M) : ∀ (r fuel n : Nat) (v : Int), N - n = r → r < fuel → n ≤ N → v = n → (∀ p : Nat, p < n → R' p = R p) → Ok (f_X5_hasBracketsOf_L15 fuel 60 54 v M) (fun q => q = 0 ∨ ∀ p : Nat, p < N → R' p = R p) := by
  intro r
  induction r with
  | zero =>
    intro fuel n v hr hf hn hv hq
    obtain ⟨fuel, rfl⟩ : ∃ f, fuel = f + 1 := ⟨fuel - 1, by omega⟩
    rw [f_X5_hasBracketsOf_L15, h5]
    exact .ifT (by omega) (.ret (Or.inr (fun p hp => hq p (by omega))))
  | succ r ih =>
    intro fuel n v hr hf hn hv hq
    obtain ⟨fuel, rfl⟩ : ∃ f, fuel = f + 1 := ⟨fuel - 1, by omega⟩
    subst hv
    rw [f_X5_hasBracketsOf_L15, h5]
    refine .ifF (by omega) (.ifT (by omega) (.bind (.val (roleAt_at hN hR (p := n) (by omega))) (fun q hq2 => ?_)))
    have e : M (60 + 2) (n : Int) = R' n := h6 n (by omega)
    rw [e]
    refine .ifC (fun hc => .let fun u eu => ?_) (fun _ => .ret (Or.inl rfl))
    rw [w32_of (by omega) (by omega)] at eu
    refine ih fuel (n + 1) u (by omega) (by omega) (by omega) (by omega) (fun p hp => ?_)
    by_cases x : p = n
    · subst x; rw [hc, hq2]
    · exact hq p (by omega)
theorem c_skip {T : Tx} {G : Sn} {B : Bx} {M : Mem} (sk : Int) (hW : WT T) (hG : WG G) (h : CI T G B M) : Ok (f_X9_costSkipping sk M) (fun r => r.1 = TotS G.1 T.1 sk ∧ CI T G B r.2 ∧ FrC M r.2) := by
  have hN := Nn_is hW.1
  have hRs : RB7 (rl G.1 T.1.b sk) := rl_bd hG.r10 T.1.b sk
  obtain ⟨w1, w2, w3, w4, w5, w6, w7, w8⟩ := hW.1.2.1
  have al := alp_bd (dr := T.1.drop) (gv := T.1.give) (by omega)
  unfold f_X9_costSkipping
  refine .bind (c_mendNow hW hG h) (fun M1 ⟨m1, m2, m3, m4⟩ => .let fun x ex => ?_)
  refine .bind (read_ok (ρ := G.1) (b := T.1.b) (sk := sk) 60 (Or.inr rfl) hW.1 rfl M1 m3.1 m3.2.2.2.1.1) (fun M2 ⟨⟨a1, a2, a3, a4, a5⟩, b1, b2, b3⟩ => ?_)
  have c2 : CI T G B M2 := by
    refine m3.q hW (fun c i hc hq => b2 c i (by unfold QC at hq; omega) (by unfold QC at hq; omega) (by unfold QC at hq; omega)) ⟨fun h0 => ?_, fun h0 => ?_⟩
    · rw [b2 0 16 (by omega) (by omega) (by omega)] at h0
      exact (m3.2.2.2.2.2.2.2.1 h0).same (fun c i _ _ => b2 c i (by omega) (by omega) (by omega))
    · exact m1.same (fun c i hc => b2 c i (by omega) (by omega) (by omega))
  have fr2 : FrC M M2 := m4.trans (fun c i hc => b2 c i (by omega) (by omega) (by omega))
  refine .bind (c_readNow hW c2) (fun M3 ⟨r1, r2, r3, r4, r5⟩ => ?_)
  have o5 : M3 60 5 = (Nn T.1 : Nat) := by rw [r5 60 5 (by unfold RZ; omega), b1]; omega
  have o6 : ∀ p : Nat, p < Nn T.1 → M3 62 p = rl G.1 T.1.b sk p := fun p hp => by rw [r5 62 p (by unfold RZ; omega)]; exact (a5 p hp).2
  have m3' : MdV G.1 T.1 M3 := by
    refine m1.same (fun c i hc => ?_)
    rw [r5 c i (by unfold RZ; omega), b2 c i (by omega) (by omega) (by omega)]
  refine .bind (Q := fun q => q = 0 ∨ ∀ p : Nat, p < Nn T.1 → rl G.1 T.1.b sk p = Rof G.1 T.1 p) ?_ (fun q hq => .ifC (fun h0 => ?_) (fun h0 => .ret ⟨?_, r3, fr2.trans r4⟩))
  · unfold f_X5_hasBracketsOf
    exact .ifC (fun _ => hasBr_L hN.2 o5 o6 r1.cr (Nn T.1) 4096 0 0 (by omega) (by omega) (by omega) rfl (fun p hp => by omega)) (fun _ => .ret (Or.inl rfl))
  · refine .bind (ccostOf_ok hN.2 hRs (al := Al T.1) (ch := T.1.chg) al (by omega) 60 (Or.inr rfl) M3 o5 o6 m3'.2.2.1 m3'.2.2.2) (fun p ⟨p1, p2, p3, p4⟩ => .ret ⟨p1, ?_, ?_⟩)
    · refine r3.q hW (fun c i hc hq => p4 c i (by unfold QC at hq; unfold CZ MZ; omega)) ⟨fun _ => r1.same (fun c i _ _ => p4 c i (by unfold CZ MZ; omega)), fun _ => m3'.same (fun c i hc => p4 c i (by unfold CZ MZ; omega))⟩
    · exact (fr2.trans r4).trans (fun c i hc => p4 c i (by unfold CZ MZ; omega))
  · rcases hq with hq | hq
    · exact absurd hq h0
    · show x = _
      rw [ex, m1.1, TotS_same hq]
theorem m_skip {T : Tx} {G : Sn} {B : Bx} {M : Mem} (sk : Int) (hW : WT T) (hG : WG G) (h : MoI T G B M) : Ok (f_X10_costOf sk M) (fun p => p.1 = TotS G.1 T.1 sk ∧ MoI T G B p.2 ∧ FrM M p.2 ∧ p.2 84 0 = M 84 0) := by
  refine (mcostOf_ok sk hW.1 hG.r10 hG.2.1 M h.1 h.2.2.2.1.1).mono (fun p ⟨p1, p2, p3, p4⟩ => ⟨p1, h.q (fun c i h0 h1 hq => p4 c i (by unfold QM at hq; unfold FZ LZ; omega)), fun c i hc => p4 c i (by unfold FZ LZ; omega), p4 84 0 (by unfold FZ LZ; omega)⟩)
theorem law_17_ok {T : Tx} {G : Sn} {B : Bx} {M : Mem} (v1 : Int) (hW : WT T) (hG : WG G) (hC : CI T G B M) (hM : MoI T G B M) : Ok (f_law_17 v1 M) (fun M' => CI T G B M' ∧ MoI T G B M') := by
  unfold f_law_17 f_L_costWithout
  by_cases hp : 0 ≤ v1 ∧ v1 < T.1.len
  · refine lawW 0 0 (TotS G.1 T.1 v1) hM ?_ hW (fun _ _ => rfl) (by decide) (fun M1 h1 => ?_)
    · unfold f_X9_costWithout
      refine .bind (.val (askByte_y hC.1 hp)) (fun z hz => ?_)
      subst hz
      exact .ifT rfl (.bind (c_skip v1 hW hG hC) (fun r ⟨r1, r2, r3⟩ => .ret ⟨rfl, fun _ => r1, r2, r3⟩))
    · unfold f_X10_costWithout
      refine .bind (m_noPlace hW hG h1 v1) (fun z ⟨b0, b1, b2, b3, b4⟩ => ?_)
      rw [if_pos hp] at b0 b1
      exact .ifT b0 (.bind (m_skip v1 hW hG b3) (fun p ⟨p1, p2, p3, p4⟩ => .ret ⟨p4.trans b1, fun _ => p1, p2, b4.trans p3⟩))
  · refine lawW 1 1 0 hM ?_ hW (fun _ _ => rfl) (by decide) (fun M1 h1 => ?_)
    · unfold f_X9_costWithout
      refine .bind (.val (askByte_n hC.1 hp)) (fun z hz => ?_)
      subst hz
      exact .ifF (by show ¬ (1 : Nat) = 0; decide) (.ret ⟨rfl, fun h => absurd h (by decide), hC, FrC.rf⟩)
    · unfold f_X10_costWithout
      refine .bind (m_noPlace hW hG h1 v1) (fun z ⟨b0, b1, b2, b3, b4⟩ => ?_)
      rw [if_neg hp] at b0 b1
      exact .ifF (by omega) (.ret ⟨b1, fun h => absurd h (by decide), b3, b4⟩)
/-! which bytes' lack changes nothing but themselves -/
theorem SC_skip {ρ b : Int → Int} {p : Nat} (h : stp ρ (SC ρ b (-1) p) (b p) = SC ρ b (-1) p) : ∀ n : Nat, SC ρ b p n = SC ρ b (-1) n := by
  intro n
  induction n with
  | zero => rfl
  | succ n ih =>
    rw [SC, SC, if_neg (c := (n : Int) = -1) (by omega), ih]
    by_cases e : (n : Int) = p
    · have : n = p := by omega
      subst this
      rw [if_pos rfl, h]
    · rw [if_neg e]
theorem rl_skip {ρ b : Int → Int} {p : Nat} (h : stp ρ (SC ρ b (-1) p) (b p) = SC ρ b (-1) p) (q : Nat) : rl ρ b p q = if q = p then -1 else rl ρ b (-1) q := by
  unfold rl
  by_cases e : q = p
  · subst e; rw [if_pos rfl, if_pos rfl]
  · rw [if_neg (by omega), if_neg e, if_neg (by omega), SC_skip h]
theorem stp_plain {ρ b : Int → Int} {p : Nat} (h0 : (SC ρ b (-1) p).1 = 0) (h8 : ρ (b p) ≠ 8) (h10 : ρ (b p) ≠ 10) : stp ρ (SC ρ b (-1) p) (b p) = SC ρ b (-1) p := by
  have ok := SC_ok ρ b (-1) p
  have e2 : (SC ρ b (-1) p).2 = 0 := by rcases ok with h | h | h <;> omega
  unfold stp
  rw [if_neg (by omega), if_neg (by omega), if_neg h8, if_neg h10]
  exact Prod.ext h0.symm e2.symm
theorem plain_of_br {ρ : Int → Int} {P : Pg} {p : Nat} (h : Rof ρ P p ≠ -1) : stp ρ (SC ρ P.b (-1) p) (P.b p) = SC ρ P.b (-1) p := by
  have h' : rl ρ P.b (-1) p ≠ -1 := h
  unfold rl rolS at h'
  rw [if_neg (by omega)] at h'
  by_cases hc : (SC ρ P.b (-1) p).1 = 0 ∧ ρ (P.b p) < 8
  · exact stp_plain hc.1 (by omega) (by omega)
  · rw [if_neg hc] at h'; exact absurd rfl h'
theorem plain_of_un {ρ : Int → Int} {P : Pg} {p : Nat} (h : hd ρ P.b (-1) p = 0) (h10 : P.b p ≠ 10) : stp ρ (SC ρ P.b (-1) p) (P.b p) = SC ρ P.b (-1) p := by
  have ok := SC_ok ρ P.b (-1) p
  unfold hd hidS at h
  rw [if_neg (by omega)] at h
  by_cases h1 : (SC ρ P.b (-1) p).1 = 1
  · rw [if_pos h1] at h; omega
  · rw [if_neg h1] at h
    by_cases h2 : (SC ρ P.b (-1) p).1 = 2
    · rw [if_pos h2, if_neg h10] at h; omega
    · rw [if_neg h2] at h
      have h0 : (SC ρ P.b (-1) p).1 = 0 := by rcases ok with q | q | q <;> omega
      refine stp_plain h0 (fun e => ?_) (fun e => ?_)
      · rw [if_pos e] at h; omega
      · rw [if_neg (by omega), if_pos e] at h; omega
theorem TotS_un {ρ : Int → Int} {P : Pg} {p : Nat} (h : hd ρ P.b (-1) p = 0) (h10 : P.b p ≠ 10) (hr : Rof ρ P p = -1) : TotS ρ P p = Tot ρ P := by
  refine TotS_same (fun q _ => ?_)
  rw [rl_skip (plain_of_un h h10)]
  by_cases e : q = p
  · rw [if_pos e, e, hr]
  · rw [if_neg e]; rfl
theorem nb_less {R R' : Nat → Int} {p : Nat} (hp : R p ≠ -1) (h : ∀ q, R' q = if q = p then -1 else R q) : ∀ n : Nat, nb R' n = nb R n - (if p < n then 1 else 0) := by
  intro n
  induction n with
  | zero => rw [if_neg (by omega)]; rfl
  | succ n ih =>
    by_cases e : n = p
    · subst e
      rw [nb_s0 (by rw [h, if_pos rfl]), nb_s1 hp, ih, if_neg (by omega), if_pos (by omega)]; omega
    · have e2 : R' n = R n := by rw [h, if_neg e]
      by_cases hr : R n = -1
      · rw [nb_s0 (by rw [e2]; exact hr), nb_s0 hr, ih]
        by_cases x : p < n
        · rw [if_pos x, if_pos (by omega)]
        · rw [if_neg x, if_neg (by omega)]
      · rw [nb_s1 (by rw [e2]; exact hr), nb_s1 hr, ih]
        by_cases x : p < n
        · rw [if_pos x, if_pos (by omega)]; omega
        · rw [if_neg x, if_neg (by omega)]; omega
theorem TotS_br {ρ : Int → Int} {P : Pg} {p : Nat} (hp : p < Nn P) (hr : Rof ρ P p ≠ -1) : TotS ρ P p = Ec (Rr ρ P) (Al P) P.chg (nb (Rof ρ P) p).toNat 0 (Kk ρ P) := by
  have h : ∀ q, rl ρ P.b p q = if q = p then -1 else Rof ρ P q := fun q => rl_skip (plain_of_br hr) q
  have nl := nb_less hr h
  have bp := nb_bd (Rof ρ P) p
  have lp := nb_lt hp hr
  have k1 := kk_is (Rof ρ P) (Nn P)
  have k2 := kk_is (rl ρ P.b p) (Nn P)
  have nN := nl (Nn P)
  rw [if_pos hp] at nN
  unfold TotS Ec
  have ek : kk (rl ρ P.b p) (Nn P) = Kk ρ P - 1 := by unfold Kk; omega
  rw [ek]
  refine Cs_congr _ 0 (Kk ρ P - 1) rfl (fun k _ kl => ?_)
  have kl2 : (k : Int) < nb (rl ρ P.b p) (Nn P) := by omega
  obtain ⟨q, a, b, c, d, e⟩ := plc_is kl2
  have hqp : q ≠ p := fun x => b (by rw [h, if_pos x])
  have rq : rl ρ P.b p q = Rof ρ P q := by rw [h, if_neg hqp]
  rw [e, rq]
  have nq := nl q
  unfold lss
  by_cases x : p < q
  · rw [if_pos x] at nq
    have lq := nb_lt x hr
    rw [if_neg (by omega)]
    exact (ro_nb (N := Nn P) a (by rw [← rq]; exact b) (by omega)).symm
  · rw [if_neg x] at nq
    have : q < p := by omega
    have bq : Rof ρ P q ≠ -1 := by rw [← rq]; exact b
    have lq := nb_lt this bq
    rw [if_pos (by omega)]
    exact (ro_nb (N := Nn P) a bq (by omega)).symm
theorem TotS_bd {G : Sn} {P : Pg} (hW : Wf P) (sk : Int) : 0 ≤ TotS G.1 P sk ∧ TotS G.1 P sk ≤ 23760 := by
  obtain ⟨w1, w2, w3, w4, w5, w6, w7, w8⟩ := hW.2.1
  have hN := Nn_is hW
  have k := kk_is (rl G.1 P.b sk) (Nn P)
  exact Cs_b2 _ (alp_bd (dr := P.drop) (gv := P.give) (by omega)) (by omega) (by omega)
