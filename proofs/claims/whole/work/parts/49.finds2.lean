theorem nbr_mono (ρ b : Int → Int) (sk : Int) : ∀ (n p : Nat), p ≤ n → nbr ρ b sk p ≤ nbr ρ b sk n := by
  intro n
  induction n with
  | zero => intro p h; rw [show p = 0 by omega]; exact Int.le_refl _
  | succ n ih =>
    intro p h
    by_cases e : p = n + 1
    · rw [e]; exact Int.le_refl _
    · have := ih p (by omega)
      rw [nbr]
      split <;> omega
theorem nbr_lt (ρ b : Int → Int) (sk : Int) {n p : Nat} (h : p < n) (hr : rl ρ b sk p ≠ -1) : nbr ρ b sk p < nbr ρ b sk n := by
  have := nbr_mono ρ b sk n (p + 1) (by omega)
  rw [nbr, if_neg hr] at this
  omega
/-- what the model knows of the first n places -/
def FdI (ρ b : Int → Int) (sk : Int) (M : Mem) (n : Nat) : Prop := M 84 26 = nbr ρ b sk n ∧ (∀ p : Nat, p < n → (p : Int) ≠ sk → M 92 p = hd ρ b sk p) ∧ ∀ p : Nat, p < n → rl ρ b sk p ≠ -1 → M 93 (nbr ρ b sk p) = p ∧ M 94 (nbr ρ b sk p) = rl ρ b sk p / 2 ∧ M 95 (nbr ρ b sk p) = 1 - rl ρ b sk p % 2
def FrF (M M' : Mem) : Prop := ∀ c i, ¬ (c = 84 ∧ i = 26) → c ≠ 92 → c ≠ 93 → c ≠ 94 → c ≠ 95 → M' c i = M c i
theorem SgM.same {ρ : Int → Int} {M M' : Mem} (h : SgM ρ M) (e : ∀ c i, (c = 84 ∧ (i = 1 ∨ i = 4 ∨ i = 5 ∨ i = 6)) ∨ c = 85 ∨ c = 86 → M' c i = M c i) : SgM ρ M' := by
  obtain ⟨h1, h2, h3⟩ := h
  refine ⟨by rw [e 84 1 (by omega)]; exact h1, by rw [e 84 1 (by omega)]; exact h2, fun c hc => ?_⟩
  rw [e 84 1 (by omega), e 84 4 (by omega), e 84 5 (by omega), e 84 6 (by omega)]
  obtain ⟨s1, s2, s3, s4, s5⟩ := h3 c hc
  refine ⟨s1, s2, s3, fun k k0 k1 => ?_, s5⟩
  rw [e 85 k (by omega), e 86 k (by omega)]
  exact s4 k k0 k1
/-- a place without a bracket -/
theorem FdI.none {ρ b : Int → Int} {sk : Int} {M M1 : Mem} {n : Nat} (h : FdI ρ b sk M n) (hr : rl ρ b sk n = -1) (hh : (n : Int) ≠ sk → M1 92 n = hd ρ b sk n) (e : ∀ c i, ¬ (c = 92 ∧ i = (n : Int)) → M1 c i = M c i) : FdI ρ b sk M1 (n + 1) := by
  obtain ⟨h1, h2, h3⟩ := h
  refine ⟨by rw [e 84 26 (by omega), nbr, if_pos hr]; omega, fun p hp hsk => ?_, fun p hp hq => ?_⟩
  · by_cases hpn : p = n
    · subst hpn; exact hh hsk
    · rw [e 92 p (by omega)]; exact h2 p (by omega) hsk
  · by_cases hpn : p = n
    · subst hpn; exact absurd hr hq
    · rw [e 93 _ (by omega), e 94 _ (by omega), e 95 _ (by omega)]
      exact h3 p (by omega) hq
theorem FdI.br {ρ b : Int → Int} {sk : Int} {M M1 M2 : Mem} {n : Nat} (h : FdI ρ b sk M n) (hh : M1 92 n = hd ρ b sk n) (e : ∀ c i, ¬ (c = 92 ∧ i = (n : Int)) → M1 c i = M c i) (hB : BR n (rl ρ b sk n) M1 M2) : FdI ρ b sk M2 (n + 1) := by
  obtain ⟨h1, h2, h3⟩ := h
  obtain ⟨b1, b2, b3⟩ := hB
  have e26 : M1 84 26 = nbr ρ b sk n := by rw [e 84 26 (by omega)]; exact h1
  rw [e26] at b1 b2 b3
  refine ⟨by rw [b1, nbr], fun p hp hsk => ?_, fun p hp hq => ?_⟩
  · rw [b3 92 p (by omega) (by omega)]
    by_cases hpn : p = n
    · subst hpn; exact hh
    · rw [e 92 p (by omega)]; exact h2 p (by omega) hsk
  · by_cases hpn : p = n
    · subst hpn; exact b2 hq
    · have hlt := nbr_lt ρ b sk (n := n) (p := p) (by omega) hq
      rw [b3 93 _ (by omega) (by omega), b3 94 _ (by omega) (by omega), b3 95 _ (by omega) (by omega), e 93 _ (by omega), e 94 _ (by omega), e 95 _ (by omega)]
      exact h3 p (by omega) hq
theorem finds_L12_ok {ρ : Int → Int} {sk : Int} {P : Pg} (hW : Wf P) (h10 : ρ 10 = -1) : ∀ (r fuel n : Nat) (x y : Int) (M : Mem), (P.len - n).toNat = r → r < fuel → (n : Int) ≤ P.len → SC ρ P.b sk n = (x, y) → FdI ρ P.b sk M n → PgM M 90 0 P → SgM ρ M →
    Ok (f_X10_finds_L12 fuel sk x y n M) (fun M' => FdI ρ P.b sk M' P.len.toNat ∧ FrF M M') := by
  have l0 := hW.l0
  have l1 := hW.l1
  intro r
  induction r with
  | zero =>
    intro fuel n x y M hr hf hn hs hI hP hS
    obtain ⟨fuel, rfl⟩ : ∃ f, fuel = f + 1 := ⟨fuel - 1, by omega⟩
    have p0 : M 90 0 = P.len := hP.1
    rw [f_X10_finds_L12]
    refine .ifT (by omega) (.ret ⟨?_, fun c i _ _ _ _ _ => rfl⟩)
    rw [show P.len.toNat = n by omega]
    exact hI
  | succ r ih =>
    intro fuel n x y M hr hf hn hs hI hP hS
    obtain ⟨fuel, rfl⟩ : ∃ f, fuel = f + 1 := ⟨fuel - 1, by omega⟩
    have p0 : M 90 0 = P.len := hP.1
    have hnb := nbr_le ρ P.b sk n
    have adv : ∀ (M1 : Mem) (x' y' : Int), SC ρ P.b sk (n + 1) = (x', y') → FdI ρ P.b sk M1 (n + 1) → FrF M M1 → Ok (lt1 (w32 ((n : Int) + 1)) fun k => f_X10_finds_L12 fuel sk x' y' k M1) (fun M' => FdI ρ P.b sk M' P.len.toNat ∧ FrF M M') := by
      intro M1 x' y' hs' hI' fr
      refine .let fun k ek => ?_
      rw [w32_of (by omega) (by omega)] at ek
      have ek2 : k = ((n + 1 : Nat) : Int) := by omega
      subst ek2
      refine (ih fuel (n + 1) x' y' M1 (by omega) (by omega) (by omega) hs' hI' (hP.same (fun i => fr 90 i (by omega) (by omega) (by omega) (by omega) (by omega))) (hS.same (fun c i h => fr c i (by omega) (by omega) (by omega) (by omega) (by omega)))).mono (fun M' h => ?_)
      exact ⟨h.1, fun c i a1 a2 a3 a4 a5 => (h.2 c i a1 a2 a3 a4 a5).trans (fr c i a1 a2 a3 a4 a5)⟩
    rw [f_X10_finds_L12]
    by_cases hsk : (n : Int) = sk
    · refine .ifF (by omega) (.ifT hsk (adv M x y ?_ ?_ (fun c i _ _ _ _ _ => rfl)))
      · rw [SC, if_pos hsk]; exact hs
      · exact hI.none (by rw [rl, if_pos hsk]) (fun h => absurd hsk h) (fun c i _ => rfl)
    · rw [w32_of (i := 14 + (n : Int)) (by omega) (by omega)]
      refine .ifF (by omega) (.ifF hsk (.ifT (by omega) (.let fun c ec => ?_)))
      have hc : c = P.b n := by
        rw [ec]
        have := hP.2.2.2.2.2.2.1 n (by omega) (by omega)
        rw [Int.zero_add] at this
        exact this
      have htx : isTxt c := by rw [hc]; exact hW.bt n (by omega) (by omega)
      obtain ⟨s1, s2, s3, s4, s5⟩ := hS.2.2 c htx
      have hsc : SC ρ P.b sk (n + 1) = stp ρ (x, y) c := by rw [SC, if_neg hsk, hs, hc]
      have hhd : hd ρ P.b sk n = hidS ρ (x, y) c := by rw [hd, if_neg hsk, hs, hc]
      have hrl : rl ρ P.b sk n = rolS ρ (x, y) c := by rw [rl, if_neg hsk, hs, hc]
      have hok : okS (x, y) := by rw [← hs]; exact SC_ok _ _ _ _
      have hok2 : (x = 0 ∧ y = 0) ∨ (x = 1 ∧ (y = 0 ∨ y = 1)) ∨ (x = 2 ∧ y = 0) := hok
      have put92 : ∀ (M1 : Mem) (v : Int), (∀ b i, M1 b i = if b = 92 ∧ i = (n : Int) then v else M b i) → x ≠ 0 → v = hidS ρ (x, y) c → FdI ρ P.b sk M1 (n + 1) ∧ FrF M M1 := by
        intro M1 v e1 hx hv
        refine ⟨hI.none (by rw [hrl]; unfold rolS; rw [if_neg (fun q => hx q.1)]) (fun _ => by rw [e1, if_pos ⟨rfl, rfl⟩, hhd, hv]) (fun c i h => by rw [e1, if_neg h]), fun c i _ a2 _ _ _ => by rw [e1, if_neg (by omega)]⟩
      refine .ifC (fun x1 => .ifT (by omega) (.put fun M1 e1 => ?_)) (fun x1 => .ifC (fun x2 => .ifC (fun h10c => .ifT (by omega) (.put fun M1 e1 => ?_)) (fun h10c => .ifT (by omega) (.put fun M1 e1 => ?_))) (fun x2 => ?_))
      · obtain ⟨f1, f2⟩ := put92 M1 1 e1 (by omega) (by unfold hidS; rw [if_pos x1])
        have q4 : M1 84 4 = M 84 4 := by rw [e1, if_neg (by omega)]
        have q5 : M1 84 5 = M 84 5 := by rw [e1, if_neg (by omega)]
        rw [q4, q5]
        have hst : ∀ u : Int × Int, (if y = 1 then ((1 : Int), (0 : Int)) else if ρ c = 9 then (1, 1) else if ρ c = 8 then (0, 0) else (1, 0)) = u → SC ρ P.b sk (n + 1) = u := fun u hu => by
          rw [hsc]; unfold stp; rw [if_pos x1]; exact hu
        refine .ifC (fun hq => .ifC (fun hy => .ifC (fun he => ?_) (fun he => adv M1 0 0 (hst _ ?_) f1 f2)) (fun hy => .ifC (fun he => ?_) (fun he => adv M1 1 0 (hst _ ?_) f1 f2))) (fun hq => .ifC (fun he => .ifC (fun hy => adv M1 1 1 (hst _ ?_) f1 f2) (fun hy => adv M1 1 0 (hst _ ?_) f1 f2)) (fun he => adv M1 1 0 (hst _ ?_) f1 f2))
        · have := s1.mpr hq; have := s2.mpr he; omega
        · have := s1.mpr hq
          rw [if_neg (by omega), if_neg (by omega), if_pos this]
        · have := s1.mpr hq; have := s2.mpr he; omega
        · rw [if_pos (by omega)]
        · have := s2.mpr he
          rw [if_neg (by omega), if_pos this]
        · rw [if_pos (by omega)]
        · have n9 : ¬ ρ c = 9 := fun h => he (s2.mp h)
          have n8 : ¬ ρ c = 8 := fun h => hq (s1.mp h)
          by_cases hy : y = 1
          · rw [if_pos hy]
          · rw [if_neg hy, if_neg n9, if_neg n8]
      · obtain ⟨f1, f2⟩ := put92 M1 0 e1 (by omega) (by unfold hidS; rw [if_neg x1, if_pos x2, if_pos h10c])
        refine adv M1 0 y ?_ f1 f2
        rw [hsc]; unfold stp; rw [if_neg x1, if_pos x2, if_pos h10c, show y = 0 by omega]
      · obtain ⟨f1, f2⟩ := put92 M1 2 e1 (by omega) (by unfold hidS; rw [if_neg x1, if_pos x2, if_neg h10c])
        refine adv M1 2 y ?_ f1 f2
        rw [hsc]; unfold stp; rw [if_neg x1, if_pos x2, if_neg h10c, show y = 0 by omega]
      · have x0 : x = 0 := by omega
        have y0 : y = 0 := by omega
        subst x0; subst y0
        have fin : ∀ (M1 : Mem) (v x' : Int), (∀ b i, M1 b i = if b = 92 ∧ i = (n : Int) then v else M b i) → v = hidS ρ (0, 0) c → stp ρ (0, 0) c = (x', 0) → Ok ((f_X10_bracket n c M1).bind fun p182 => lt1 (w32 ((n : Int) + 1)) fun k => f_X10_finds_L12 fuel sk x' 0 k p182) (fun M' => FdI ρ P.b sk M' P.len.toNat ∧ FrF M M') := by
          intro M1 v x' e1 hv hst
          have e26 : M1 84 26 = nbr ρ P.b sk n := by rw [e1, if_neg (by omega)]; exact hI.1
          refine .bind (bracket_ok n c M1 (hS.same (fun c i h => by rw [e1, if_neg (by omega)])) htx (by omega) (by omega)) (fun M2 hB => adv M2 x' 0 (hsc.trans hst) ?_ ?_)
          · rw [← hrl] at hB
            exact hI.br (by rw [e1, if_pos ⟨rfl, rfl⟩, hhd, hv]) (fun c i h => by rw [e1, if_neg h]) hB
          · intro c i a1 a2 a3 a4 a5
            rw [hB.2.2 c i a1 (by omega), e1, if_neg (by omega)]
        refine .ifC (fun hq => .ifT (by omega) (.put fun M1 e1 => fin M1 1 1 e1 ?_ ?_)) (fun hq => .ifC (fun hn6 => .ifT (by omega) (.put fun M1 e1 => fin M1 2 2 e1 ?_ ?_)) (fun hn6 => .ifT (by omega) (.put fun M1 e1 => fin M1 0 0 e1 ?_ ?_)))
        · have := s1.mpr hq; simp [hidS, this]
        · have := s1.mpr hq; simp [stp, this]
        · have := s3.mpr hn6; simp [hidS, this]
        · have := s3.mpr hn6; simp [stp, this]
        · have n8 : ¬ ρ c = 8 := fun h => hq (s1.mp h)
          have n10 : ¬ ρ c = 10 := fun h => hn6 (s3.mp h)
          simp [hidS, n8, n10]
        · have n8 : ¬ ρ c = 8 := fun h => hq (s1.mp h)
          have n10 : ¬ ρ c = 10 := fun h => hn6 (s3.mp h)
          simp [stp, n8, n10]
theorem finds_ok {ρ : Int → Int} (sk : Int) {P : Pg} (hW : Wf P) (h10 : ρ 10 = -1) (M : Mem) (hP : PgM M 90 0 P) (hS : SgM ρ M) : Ok (f_X10_finds sk M) (fun M' => FdI ρ P.b sk M' P.len.toNat ∧ FrF M M') := by
  have l0 := hW.l0
  have l1 := hW.l1
  unfold f_X10_finds
  refine .put fun M1 e1 => ?_
  have oth : ∀ c i, ¬ (c = 84 ∧ i = 26) → M1 c i = M c i := fun c i h => by rw [e1, if_neg h]
  refine (finds_L12_ok (sk := sk) hW h10 (P.len - (0 : Nat)).toNat 4096 0 0 0 M1 rfl (by omega) (by omega) rfl ⟨by rw [e1, if_pos ⟨rfl, rfl⟩]; rfl, fun p hp => by omega, fun p hp => by omega⟩ (hP.same (fun i => oth 90 i (by omega))) (hS.same (fun c i h => oth c i (by omega)))).mono (fun M' h => ⟨h.1, fun c i a1 a2 a3 a4 a5 => (h.2 c i a1 a2 a3 a4 a5).trans (oth c i a1)⟩)
