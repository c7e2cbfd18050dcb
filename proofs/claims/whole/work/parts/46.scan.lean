/-! ===== what a text says: the scan ===== -/
/-- the state (inside, escaped) behind a byte -/
def stp (ρ : Int → Int) (s : Int × Int) (c : Int) : Int × Int :=
  if s.1 = 1 then (if s.2 = 1 then (1, 0) else if ρ c = 9 then (1, 1) else if ρ c = 8 then (0, 0) else (1, 0))
  else if s.1 = 2 then (if c = 10 then (0, 0) else (2, 0))
  else if ρ c = 8 then (1, 0) else if ρ c = 10 then (2, 0) else (0, 0)
def hidS (ρ : Int → Int) (s : Int × Int) (c : Int) : Int :=
  if s.1 = 1 then 1 else if s.1 = 2 then (if c = 10 then 0 else 2) else if ρ c = 8 then 1 else if ρ c = 10 then 2 else 0
def rolS (ρ : Int → Int) (s : Int × Int) (c : Int) : Int := if s.1 = 0 ∧ ρ c < 8 then ρ c else -1
def SC (ρ b : Int → Int) (sk : Int) : Nat → Int × Int
  | 0 => (0, 0)
  | n + 1 => if (n : Int) = sk then SC ρ b sk n else stp ρ (SC ρ b sk n) (b n)
def hd (ρ b : Int → Int) (sk : Int) (n : Nat) : Int := if (n : Int) = sk then 0 else hidS ρ (SC ρ b sk n) (b n)
def rl (ρ b : Int → Int) (sk : Int) (n : Nat) : Int := if (n : Int) = sk then -1 else rolS ρ (SC ρ b sk n) (b n)
def nbr (ρ b : Int → Int) (sk : Int) : Nat → Int
  | 0 => 0
  | n + 1 => nbr ρ b sk n + (if rl ρ b sk n = -1 then 0 else 1)
def nhd (ρ b : Int → Int) (sk : Int) : Nat → Int
  | 0 => 0
  | n + 1 => nhd ρ b sk n + (if hd ρ b sk n = 0 then 0 else 1)
def okS (s : Int × Int) : Prop := (s.1 = 0 ∧ s.2 = 0) ∨ (s.1 = 1 ∧ (s.2 = 0 ∨ s.2 = 1)) ∨ (s.1 = 2 ∧ s.2 = 0)
theorem stp_ok (ρ : Int → Int) {s : Int × Int} (c : Int) (h : okS s) : okS (stp ρ s c) := by
  unfold stp okS
  repeat' split
  all_goals simp
theorem SC_ok (ρ b : Int → Int) (sk : Int) : ∀ n, okS (SC ρ b sk n) := by
  intro n
  induction n with
  | zero => exact Or.inl ⟨rfl, rfl⟩
  | succ n ih =>
    rw [SC]
    split
    · exact ih
    · exact stp_ok _ _ ih
theorem nbr_le (ρ b : Int → Int) (sk : Int) : ∀ n : Nat, 0 ≤ nbr ρ b sk n ∧ nbr ρ b sk n ≤ n := by
  intro n
  induction n with
  | zero => exact ⟨Int.le_refl 0, Int.le_refl 0⟩
  | succ n ih =>
    rw [nbr]
    split <;> omega
theorem nhd_le (ρ b : Int → Int) (sk : Int) : ∀ n : Nat, 0 ≤ nhd ρ b sk n ∧ nhd ρ b sk n ≤ n := by
  intro n
  induction n with
  | zero => exact ⟨Int.le_refl 0, Int.le_refl 0⟩
  | succ n ih =>
    rw [nhd]
    split <;> omega
/-! the class reads -/
theorem hide_ok (o : Nat) (v : Int) (M : Mem) (h0 : 0 ≤ v) (h1 : v < 240) (h8 : 0 ≤ M o 8) (h9 : M o 8 ≤ 1000) : Ok (f_X5_hide o v M) (fun M' => ∀ b i, M' b i = if b = o ∧ i = 8 then M o 8 + 1 else if b = o + 1 ∧ i = v then M o 10 else M b i) := by
  unfold f_X5_hide
  refine .ifF (by omega) (.ifF (by omega) (.ifT (by omega) (.put fun M1 e1 => .put fun M2 e2 => .ret fun b i => ?_)))
  have a8 : M1 o 8 = M o 8 := by rw [e1, if_neg (by omega)]
  rw [a8, w32_of (by omega) (by omega)] at e2
  rw [e2, e1]
theorem roleOf_ok (o : Nat) (c : Int) (M : Mem) : f_X7_roleOf o c M = some (if 0 ≤ c ∧ c ≤ 126 then M (o + 1) c else -1) := by
  unfold f_X7_roleOf
  by_cases h : c < 0
  · rw [if_pos h, if_neg (by omega)]
  · rw [if_neg h]
    by_cases h2 : 126 < c
    · rw [if_pos h2, if_neg (by omega)]
    · rw [if_neg h2, if_pos (by omega), if_pos (by omega)]
theorem readInside_ok (o : Nat) (ρc : Int) (M : Mem) : Ok (f_X5_readInside o ρc M) (fun M' => M' o 10 = (if M o 10 = 1 ∧ M o 11 = 0 ∧ ρc ≠ 9 ∧ ρc = 8 then 0 else M o 10) ∧ M' o 11 = (if M o 10 = 1 then (if M o 11 = 0 ∧ ρc = 9 then 1 else if M o 11 = 0 then M o 11 else 0) else M o 11) ∧ ∀ b i, ¬ (b = o ∧ (i = 10 ∨ i = 11)) → M' b i = M b i) := by
  unfold f_X5_readInside
  refine .ifC (fun h1 => .ifC (fun h2 => .ifC (fun h3 => .put fun M1 e1 => .ret ⟨?_, ?_, fun b i hb => ?_⟩) (fun h3 => .ifC (fun h4 => .put fun M1 e1 => .ret ⟨?_, ?_, fun b i hb => ?_⟩) (fun h4 => .ret ⟨?_, ?_, fun b i hb => rfl⟩))) (fun h2 => .put fun M1 e1 => .ret ⟨?_, ?_, fun b i hb => ?_⟩)) (fun h1 => .ret ⟨?_, ?_, fun b i hb => rfl⟩)
  · rw [e1, if_neg (by omega), if_neg (by omega)]
  · rw [e1, if_pos ⟨rfl, rfl⟩, if_pos h1, if_pos ⟨h2, h3⟩]
  · rw [e1, if_neg (by omega)]
  · rw [e1, if_pos ⟨rfl, rfl⟩, if_pos ⟨h1, h2, h3, h4⟩]
  · rw [e1, if_neg (by omega), if_pos h1, if_neg (by omega), if_pos h2]
  · rw [e1, if_neg (by omega)]
  · rw [if_neg (by omega)]
  · rw [if_pos h1, if_neg (by omega), if_pos h2]
  · rw [e1, if_neg (by omega), if_neg (by omega)]
  · rw [e1, if_pos ⟨rfl, rfl⟩, if_pos h1, if_neg (by omega), if_neg h2]
  · rw [e1, if_neg (by omega)]
  · rw [if_neg (by omega)]
  · rw [if_neg h1]
/-- one byte read, at a place that says nothing yet -/
def RB (ρ : Int → Int) (o : Nat) (p c : Int) (M M' : Mem) : Prop := M' o 10 = (stp ρ (M o 10, M o 11) c).1 ∧ M' o 11 = (stp ρ (M o 10, M o 11) c).2 ∧ M' (o + 1) p = hidS ρ (M o 10, M o 11) c ∧ M' (o + 2) p = rolS ρ (M o 10, M o 11) c ∧
  M' o 6 = M o 6 + (if rolS ρ (M o 10, M o 11) c = -1 then 0 else 1) ∧ M' o 8 = M o 8 + (if hidS ρ (M o 10, M o 11) c = 0 then 0 else 1) ∧ ∀ b i, ¬ (b = o ∧ (i = 10 ∨ i = 11 ∨ i = 6 ∨ i = 8)) → ¬ ((b = o + 1 ∨ b = o + 2) ∧ i = p) → M' b i = M b i
theorem readByte_ok (ρ : Int → Int) (o : Nat) (p c : Int) (M : Mem) (hρ : (if 0 ≤ c ∧ c ≤ 126 then M 12 c else -1) = ρ c) (hr : ρ c = -1 ∨ (0 ≤ ρ c ∧ ρ c ≤ 10)) (h10 : ρ 10 = -1) (hs : okS (M o 10, M o 11)) (h0 : 0 ≤ p) (h1 : p < 240) (hh : M (o + 1) p = 0) (hrl : M (o + 2) p = -1) (h6 : 0 ≤ M o 6) (h6b : M o 6 ≤ 1000) (h8 : 0 ≤ M o 8) (h8b : M o 8 ≤ 1000) :
    Ok (f_X5_readByte o p c 11 M) (RB ρ o p c M) := by
  unfold f_X5_readByte
  refine .bind (.val (roleOf_ok 11 c M)) (fun q hq => ?_)
  have hq : q = ρ c := by rw [hq]; exact hρ
  subst hq
  have hs' : (M o 10 = 0 ∧ M o 11 = 0) ∨ (M o 10 = 1 ∧ (M o 11 = 0 ∨ M o 11 = 1)) ∨ (M o 10 = 2 ∧ M o 11 = 0) := hs
  have K29 : ¬ (M o 10 = 2 ∧ c = 10) → Ok (f_X5_readByte_K29 o p (ρ c) M) (RB ρ o p c M) := by
    intro hn
    unfold f_X5_readByte_K29
    have K64 : M o 10 = 0 → (ρ c = 8 ∨ ρ c = 10) → Ok (f_X5_readByte_K64 o p (ρ c) M) (RB ρ o p c M) := by
      intro m0 hc
      have e0 : M o 11 = 0 := by omega
      unfold f_X5_readByte_K64
      have fin : ∀ (M1 : Mem) (x : Int), (∀ b i, M1 b i = if b = o ∧ i = 10 then x else M b i) → x = (if ρ c = 8 then 1 else 2) → Ok ((f_X5_hide o p M1).bind fun p82 => some p82) (RB ρ o p c M) := by
        intro M1 x e1 hx
        have a8 : M1 o 8 = M o 8 := by rw [e1, if_neg (by omega)]
        refine .bind (hide_ok o p M1 h0 h1 (by omega) (by omega)) (fun M2 e2 => .ret ?_)
        have hst : stp ρ (M o 10, M o 11) c = (x, 0) := by
          unfold stp
          rw [if_neg (by show ¬ M o 10 = 1; omega), if_neg (by show ¬ M o 10 = 2; omega)]
          rcases hc with hc | hc
          · rw [if_pos hc, hx, if_pos hc]
          · rw [if_neg (by omega), if_pos hc, hx, if_neg (by omega)]
        have hhd : hidS ρ (M o 10, M o 11) c = x := by
          unfold hidS
          rw [if_neg (by show ¬ M o 10 = 1; omega), if_neg (by show ¬ M o 10 = 2; omega)]
          rcases hc with hc | hc
          · rw [if_pos hc, hx, if_pos hc]
          · rw [if_neg (by omega), if_pos hc, hx, if_neg (by omega)]
        have hro : rolS ρ (M o 10, M o 11) c = -1 := by
          unfold rolS
          rw [if_neg (by omega)]
        have x0 : ¬ x = 0 := by rw [hx]; split <;> omega
        refine ⟨?_, ?_, ?_, ?_, ?_, ?_, fun b i hb hb2 => ?_⟩
        · rw [hst, e2, if_neg (by omega), if_neg (by omega), e1, if_pos ⟨rfl, rfl⟩]
        · rw [hst, e2, if_neg (by omega), if_neg (by omega), e1, if_neg (by omega)]; exact e0
        · rw [hhd, e2, if_neg (by omega), if_pos ⟨rfl, rfl⟩, e1, if_pos ⟨rfl, rfl⟩]
        · rw [hro, e2, if_neg (by omega), if_neg (by omega), e1, if_neg (by omega)]; exact hrl
        · rw [hro, e2, if_neg (by omega), if_neg (by omega), e1, if_neg (by omega), if_pos rfl]; omega
        · rw [hhd, e2, if_pos ⟨rfl, rfl⟩, a8, if_neg x0]
        · rw [e2, if_neg (by omega), if_neg (by omega), e1, if_neg (by omega)]
      refine .ifC (fun h => .put fun M1 e1 => fin M1 1 e1 (by rw [if_pos h])) (fun h => .put fun M1 e1 => fin M1 2 e1 (by rw [if_neg h]))
    refine .ifC (fun m0 => .ifC (fun hc => K64 m0 (Or.inl hc)) (fun hc8 => .ifC (fun hc => K64 m0 (Or.inr hc)) (fun hc10 => .ifC (fun hc => ?_) (fun hcn => .ifC (fun h8c => ?_) (fun h8c => ?_))))) (fun m0 => ?_)
    · have e0 : M o 11 = 0 := by omega
      have hst : stp ρ (M o 10, M o 11) c = (0, 0) := by
        unfold stp
        rw [if_neg (by show ¬ M o 10 = 1; omega), if_neg (by show ¬ M o 10 = 2; omega), if_neg hc8, if_neg hc10]
      have hhd : hidS ρ (M o 10, M o 11) c = 0 := by
        unfold hidS
        rw [if_neg (by show ¬ M o 10 = 1; omega), if_neg (by show ¬ M o 10 = 2; omega), if_neg hc8, if_neg hc10]
      have hro : rolS ρ (M o 10, M o 11) c = -1 := by
        unfold rolS
        split
        · exact hc
        · rfl
      exact .ret ⟨by rw [hst]; exact m0, by rw [hst]; exact e0, by rw [hhd]; exact hh, by rw [hro]; exact hrl, by rw [hro, if_pos rfl]; omega, by rw [hhd, if_pos rfl]; omega, fun b i _ _ => rfl⟩
    · have e0 : M o 11 = 0 := by omega
      have hst : stp ρ (M o 10, M o 11) c = (0, 0) := by
        unfold stp
        rw [if_neg (by show ¬ M o 10 = 1; omega), if_neg (by show ¬ M o 10 = 2; omega), if_neg hc8, if_neg hc10]
      have hhd : hidS ρ (M o 10, M o 11) c = 0 := by
        unfold hidS
        rw [if_neg (by show ¬ M o 10 = 1; omega), if_neg (by show ¬ M o 10 = 2; omega), if_neg hc8, if_neg hc10]
      have hro : rolS ρ (M o 10, M o 11) c = -1 := by
        unfold rolS
        rw [if_neg (by omega)]
      exact .ret ⟨by rw [hst]; exact m0, by rw [hst]; exact e0, by rw [hhd]; exact hh, by rw [hro]; exact hrl, by rw [hro, if_pos rfl]; omega, by rw [hhd, if_pos rfl]; omega, fun b i _ _ => rfl⟩
    · have e0 : M o 11 = 0 := by omega
      have hst : stp ρ (M o 10, M o 11) c = (0, 0) := by
        unfold stp
        rw [if_neg (by show ¬ M o 10 = 1; omega), if_neg (by show ¬ M o 10 = 2; omega), if_neg hc8, if_neg hc10]
      have hhd : hidS ρ (M o 10, M o 11) c = 0 := by
        unfold hidS
        rw [if_neg (by show ¬ M o 10 = 1; omega), if_neg (by show ¬ M o 10 = 2; omega), if_neg hc8, if_neg hc10]
      have hro : rolS ρ (M o 10, M o 11) c = ρ c := by
        unfold rolS
        rw [if_pos ⟨m0, by omega⟩]
      refine .ifT (by omega) (.put fun M1 e1 => .put fun M2 e2 => .ret ?_)
      have a6 : M1 o 6 = M o 6 := by rw [e1, if_neg (by omega)]
      rw [a6, w32_of (by omega) (by omega)] at e2
      refine ⟨?_, ?_, ?_, ?_, ?_, ?_, fun b i hb hb2 => ?_⟩
      · rw [hst, e2, if_neg (by omega), e1, if_neg (by omega)]; exact m0
      · rw [hst, e2, if_neg (by omega), e1, if_neg (by omega)]; exact e0
      · rw [hhd, e2, if_neg (by omega), e1, if_neg (by omega)]; exact hh
      · rw [hro, e2, if_neg (by omega), e1, if_pos ⟨rfl, rfl⟩]
      · rw [hro, e2, if_pos ⟨rfl, rfl⟩, if_neg hcn]
      · rw [hhd, e2, if_neg (by omega), e1, if_neg (by omega), if_pos rfl]; omega
      · rw [e2, if_neg (by omega), e1, if_neg (by omega)]
    · refine .bind (hide_ok o p M h0 h1 h8 h8b) (fun M1 e1 => .bind (readInside_ok o (ρ c) M1) (fun M2 ⟨g1, g2, g3⟩ => .ret ?_))
      have a10 : M1 o 10 = M o 10 := by rw [e1, if_neg (by omega), if_neg (by omega)]
      have a11 : M1 o 11 = M o 11 := by rw [e1, if_neg (by omega), if_neg (by omega)]
      rw [a10, a11] at g1 g2
      have hro : rolS ρ (M o 10, M o 11) c = -1 := by
        unfold rolS
        rw [if_neg (by show ¬ (M o 10 = 0 ∧ _); omega)]
      have hhd : hidS ρ (M o 10, M o 11) c = M o 10 := by
        unfold hidS
        show (if M o 10 = 1 then (1 : Int) else if M o 10 = 2 then (if c = 10 then 0 else 2) else _) = M o 10
        by_cases hm : M o 10 = 1
        · rw [if_pos hm, hm]
        · rw [if_neg hm, if_pos (by omega), if_neg (by omega)]; omega
      have hst : stp ρ (M o 10, M o 11) c = (M2 o 10, M2 o 11) := by
        unfold stp
        rw [g1, g2]
        show (if M o 10 = 1 then _ else if M o 10 = 2 then _ else _) = _
        by_cases hm : M o 10 = 1
        · rw [if_pos hm, if_pos hm]
          by_cases he : M o 11 = 1
          · rw [if_pos he, if_neg (by omega), if_neg (by omega), if_neg (by omega), hm]
          · have he0 : M o 11 = 0 := by omega
            rw [if_neg he]
            by_cases h9 : ρ c = 9
            · rw [if_pos h9, if_neg (by omega), if_pos ⟨he0, h9⟩, hm]
            · rw [if_neg h9]
              by_cases h8c : ρ c = 8
              · rw [if_pos h8c, if_pos ⟨hm, he0, h9, h8c⟩, if_neg (by omega), if_pos he0, he0]
              · rw [if_neg h8c, if_neg (by omega), if_neg (by omega), if_pos he0, hm, he0]
        · rw [if_neg hm, if_pos (by omega), if_neg (by omega), if_neg (by omega), if_neg hm]
          exact Prod.ext (by show (2 : Int) = M o 10; omega) (by show (0 : Int) = M o 11; omega)
      refine ⟨by rw [hst], by rw [hst], ?_, ?_, ?_, ?_, fun b i hb hb2 => ?_⟩
      · rw [hhd, g3 _ _ (by omega), e1, if_neg (by omega), if_pos ⟨rfl, rfl⟩]
      · rw [hro, g3 _ _ (by omega), e1, if_neg (by omega), if_neg (by omega)]; exact hrl
      · rw [hro, g3 _ _ (by omega), e1, if_neg (by omega), if_neg (by omega), if_pos rfl]; omega
      · rw [hhd, g3 _ _ (by omega), e1, if_pos ⟨rfl, rfl⟩, if_neg m0]
      · rw [g3 _ _ (by omega), e1, if_neg (by omega), if_neg (by omega)]
  refine .ifC (fun m2 => .ifC (fun hc => .put fun M1 e1 => .ret ?_) (fun hc => K29 (by omega))) (fun m2 => K29 (by omega))
  have e0 : M o 11 = 0 := by omega
  have hst : stp ρ (M o 10, M o 11) c = (0, 0) := by
    unfold stp
    rw [if_neg (by show ¬ M o 10 = 1; omega), if_pos (by show M o 10 = 2; omega), if_pos hc]
  have hhd : hidS ρ (M o 10, M o 11) c = 0 := by
    unfold hidS
    rw [if_neg (by show ¬ M o 10 = 1; omega), if_pos (by show M o 10 = 2; omega), if_pos hc]
  have hro : rolS ρ (M o 10, M o 11) c = -1 := by
    unfold rolS
    rw [if_neg (by show ¬ (M o 10 = 0 ∧ _); omega)]
  refine ⟨?_, ?_, ?_, ?_, ?_, ?_, fun b i hb hb2 => ?_⟩
  · rw [hst, e1, if_pos ⟨rfl, rfl⟩]
  · rw [hst, e1, if_neg (by omega)]; exact e0
  · rw [hhd, e1, if_neg (by omega)]; exact hh
  · rw [hro, e1, if_neg (by omega)]; exact hrl
  · rw [hro, e1, if_neg (by omega), if_pos rfl]; omega
  · rw [hhd, e1, if_neg (by omega), if_pos rfl]; omega
  · rw [e1, if_neg (by omega)]
