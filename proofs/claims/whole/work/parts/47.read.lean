/-! ===== the class reads a text ===== -/
/-- what the class's reading o knows of the first n places -/
def RdI (ρ b : Int → Int) (sk : Int) (M : Mem) (o : Nat) (n : Nat) : Prop := M o 10 = (SC ρ b sk n).1 ∧ M o 11 = (SC ρ b sk n).2 ∧ M o 6 = nbr ρ b sk n ∧ M o 8 = nhd ρ b sk n ∧ ∀ p : Nat, p < n → M (o + 1) p = hd ρ b sk p ∧ M (o + 2) p = rl ρ b sk p
/-- a table of roles -/
def RoT (ρ : Int → Int) (M : Mem) : Prop := (∀ c, (if 0 ≤ c ∧ c ≤ 126 then M 12 c else -1) = ρ c) ∧ (∀ c, ρ c = -1 ∨ (0 ≤ ρ c ∧ ρ c ≤ 10)) ∧ ρ 10 = -1
theorem read_L37_ok {ρ b : Int → Int} {sk : Int} (o : Nat) (ho : o = 54 ∨ o = 60) {P : Pg} (hW : Wf P) (hb : P.b = b) : ∀ (r fuel n : Nat) (M : Mem), (P.len - n).toNat = r → r < fuel → (n : Int) ≤ P.len → RdI ρ b sk M o n → PgC M 14 P → RoT ρ M → M o 5 = P.len →
    Ok (f_X5_read_L37 fuel o 14 11 sk n M) (fun M' => RdI ρ b sk M' o P.len.toNat ∧ M' o 5 = P.len ∧ (∀ c i, c ≠ o → c ≠ o + 1 → c ≠ o + 2 → M' c i = M c i) ∧ ∀ i, ¬ (i = 10 ∨ i = 11 ∨ i = 6 ∨ i = 8) → M' o i = M o i) := by
  subst hb
  have l0 := hW.l0
  have l1 := hW.l1
  intro r
  induction r with
  | zero =>
    intro fuel n M hr hf hn hI hP hρ h5
    obtain ⟨fuel, rfl⟩ : ∃ f, fuel = f + 1 := ⟨fuel - 1, by omega⟩
    rw [f_X5_read_L37]
    refine .ifT (by omega) (.ret ⟨?_, h5, fun c i _ _ _ => rfl, fun i _ => rfl⟩)
    rw [show P.len.toNat = n by omega]
    exact hI
  | succ r ih =>
    intro fuel n M hr hf hn hI hP hρ h5
    obtain ⟨fuel, rfl⟩ : ∃ f, fuel = f + 1 := ⟨fuel - 1, by omega⟩
    obtain ⟨i1, i2, i3, i4, i5⟩ := hI
    have hnb := nbr_le ρ P.b sk n
    have hnh := nhd_le ρ P.b sk n
    rw [f_X5_read_L37]
    refine .ifF (by omega) (.ifT (by omega) (.put fun M1 e1 => .put fun M2 e2 => ?_))
    have oth : ∀ c i, ¬ (c = o + 1 ∧ i = (n : Int)) → ¬ (c = o + 2 ∧ i = (n : Int)) → M2 c i = M c i := fun c i h1 h2 => by rw [e2, if_neg h2, e1, if_neg h1]
    have own : ∀ i, M2 o i = M o i := fun i => oth o i (by omega) (by omega)
    have n1 : M2 (o + 1) n = 0 := by rw [e2, if_neg (by omega), e1, if_pos ⟨rfl, rfl⟩]
    have n2 : M2 (o + 2) n = -1 := by rw [e2, if_pos ⟨rfl, rfl⟩]
    have hP2 : PgC M2 14 P := hP.same (fun i => oth _ i (by omega) (by omega)) (fun i => oth _ i (by omega) (by omega)) (fun i => oth _ i (by omega) (by omega))
    have hρ2 : RoT ρ M2 := by
      refine ⟨fun c => ?_, hρ.2⟩
      rw [oth 12 c (by omega) (by omega)]
      exact hρ.1 c
    by_cases hsk : (n : Int) = sk
    · refine .ifT hsk (.let fun k ek => ?_)
      rw [w32_of (by omega) (by omega)] at ek
      have ek2 : k = ((n + 1 : Nat) : Int) := by omega
      subst ek2
      refine (ih fuel (n + 1) M2 (by omega) (by omega) (by omega) ⟨?_, ?_, ?_, ?_, fun p hp => ?_⟩ hP2 hρ2 (by rw [own]; exact h5)).mono (fun M' h => ?_)
      · rw [own, SC, if_pos hsk]; exact i1
      · rw [own, SC, if_pos hsk]; exact i2
      · rw [own, nbr, rl, if_pos hsk, if_pos rfl]; omega
      · rw [own, nhd, hd, if_pos hsk, if_pos rfl]; omega
      · by_cases hpn : p = n
        · subst hpn
          exact ⟨by rw [n1, hd, if_pos hsk], by rw [n2, rl, if_pos hsk]⟩
        · rw [oth _ _ (by omega) (by omega), oth _ _ (by omega) (by omega)]
          exact i5 p (by omega)
      · obtain ⟨g1, g2, g3, g4⟩ := h
        exact ⟨g1, g2, fun c i h1 h2 h3 => (g3 c i h1 h2 h3).trans (oth c i (by omega) (by omega)), fun i hi => (g4 i hi).trans (own i)⟩
    · have p2 : M2 14 2 = P.len := hP2.1
      refine .ifF hsk (.bind (.val (pbyteAt_ok 14 n M2 (by omega))) (fun q hq => ?_))
      have hq2 : q = P.b n := by rw [hq, if_pos (by omega)]; exact hP2.2.2.2.2.2.2.1 n (by omega) (by omega)
      subst hq2
      have hst : (M2 o 10, M2 o 11) = SC ρ P.b sk n := by rw [own, own, i1, i2]
      refine .bind (readByte_ok ρ o n (P.b n) M2 (hρ2.1 _) (hρ.2.1 _) hρ.2.2 (by rw [hst]; exact SC_ok _ _ _ _) (by omega) (by omega) n1 n2 (by rw [own]; omega) (by rw [own]; omega) (by rw [own]; omega) (by rw [own]; omega)) (fun M3 h3 => ?_)
      obtain ⟨r1, r2, r3, r4, r5, r6, r7⟩ := h3
      rw [hst] at r1 r2 r3 r4 r5 r6
      refine .let fun k ek => ?_
      rw [w32_of (by omega) (by omega)] at ek
      have ek2 : k = ((n + 1 : Nat) : Int) := by omega
      subst ek2
      have hrl : rl ρ P.b sk n = rolS ρ (SC ρ P.b sk n) (P.b n) := by rw [rl, if_neg hsk]
      have hhd : hd ρ P.b sk n = hidS ρ (SC ρ P.b sk n) (P.b n) := by rw [hd, if_neg hsk]
      refine (ih fuel (n + 1) M3 (by omega) (by omega) (by omega) ⟨?_, ?_, ?_, ?_, fun p hp => ?_⟩ ?_ ?_ ?_).mono (fun M' h => ?_)
      · rw [r1, SC, if_neg hsk]
      · rw [r2, SC, if_neg hsk]
      · rw [r5, nbr, hrl, own, i3]
      · rw [r6, nhd, hhd, own, i4]
      · by_cases hpn : p = n
        · subst hpn
          exact ⟨by rw [r3, hhd], by rw [r4, hrl]⟩
        · rw [r7 _ _ (by omega) (by omega), r7 _ _ (by omega) (by omega), oth _ _ (by omega) (by omega), oth _ _ (by omega) (by omega)]
          exact i5 p (by omega)
      · exact hP2.same (fun i => r7 _ i (by omega) (by omega)) (fun i => r7 _ i (by omega) (by omega)) (fun i => r7 _ i (by omega) (by omega))
      · refine ⟨fun c => ?_, hρ.2⟩
        rw [r7 12 c (by omega) (by omega)]
        exact hρ2.1 c
      · rw [r7 _ _ (by omega) (by omega), own]; exact h5
      · obtain ⟨g1, g2, g3, g4⟩ := h
        refine ⟨g1, g2, fun c i h1 h2 h3 => ?_, fun i hi => ?_⟩
        · rw [g3 c i h1 h2 h3, r7 c i (by omega) (by omega), oth c i (by omega) (by omega)]
        · rw [g4 i hi, r7 o i (by omega) (by omega), own]
theorem read_ok {ρ b : Int → Int} {sk : Int} (o : Nat) (ho : o = 54 ∨ o = 60) {P : Pg} (hW : Wf P) (hb : P.b = b) (M : Mem) (hP : PgC M 14 P) (hρ : RoT ρ M) :
    Ok (f_X5_read o 14 11 sk M) (fun M' => RdI ρ b sk M' o P.len.toNat ∧ M' o 5 = P.len ∧ (∀ c i, c ≠ o → c ≠ o + 1 → c ≠ o + 2 → M' c i = M c i) ∧ ∀ i, ¬ (i = 5 ∨ i = 10 ∨ i = 11 ∨ i = 6 ∨ i = 8) → M' o i = M o i) := by
  have l0 := hW.l0
  have l1 := hW.l1
  have p2 : M 14 2 = P.len := hP.1
  unfold f_X5_read
  refine .let fun x ex => .put fun M1 e1 => .put fun M2 e2 => .put fun M3 e3 => .put fun M4 e4 => .put fun M5 e5 => ?_
  have ex2 : x = P.len := by rw [ex, if_neg (by omega)]; exact p2
  have oth : ∀ c i, ¬ (c = o ∧ (i = 5 ∨ i = 10 ∨ i = 11 ∨ i = 6 ∨ i = 8)) → M5 c i = M c i := fun c i h => by rw [e5, if_neg (by omega), e4, if_neg (by omega), e3, if_neg (by omega), e2, if_neg (by omega), e1, if_neg (by omega)]
  refine (read_L37_ok (ρ := ρ) (b := b) (sk := sk) o ho hW hb (P.len - (0 : Nat)).toNat 4096 0 M5 rfl (by omega) (by omega) ⟨?_, ?_, ?_, ?_, fun p hp => by omega⟩ ?_ ?_ ?_).mono (fun M' h => ?_)
  · rw [e5, if_neg (by omega), e4, if_pos ⟨rfl, rfl⟩]; rfl
  · rw [e5, if_pos ⟨rfl, rfl⟩]; rfl
  · rw [e5, if_neg (by omega), e4, if_neg (by omega), e3, if_neg (by omega), e2, if_pos ⟨rfl, rfl⟩]; rfl
  · rw [e5, if_neg (by omega), e4, if_neg (by omega), e3, if_pos ⟨rfl, rfl⟩]; rfl
  · exact hP.same (fun i => oth _ i (by omega)) (fun i => oth _ i (by omega)) (fun i => oth _ i (by omega))
  · refine ⟨fun c => ?_, hρ.2⟩
    rw [oth 12 c (by omega)]
    exact hρ.1 c
  · rw [e5, if_neg (by omega), e4, if_neg (by omega), e3, if_neg (by omega), e2, if_neg (by omega), e1, if_pos ⟨rfl, rfl⟩]; exact ex2
  · obtain ⟨g1, g2, g3, g4⟩ := h
    exact ⟨g1, g2, fun c i h1 h2 h3 => (g3 c i h1 h2 h3).trans (oth c i (by omega)), fun i hi => (g4 i (by omega)).trans (oth o i (by omega))⟩
