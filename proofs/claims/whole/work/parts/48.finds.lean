/-! ===== the model reads a text ===== -/
/-- the signs as the model has them, by their roles -/
def SgM (ρ : Int → Int) (M : Mem) : Prop := 1 ≤ M 84 1 ∧ M 84 1 ≤ 4 ∧ ∀ c, isTxt c → (ρ c = 8 ↔ c = M 84 4) ∧ (ρ c = 9 ↔ c = M 84 5) ∧ (ρ c = 10 ↔ c = M 84 6) ∧ (∀ k, 0 ≤ k → k < M 84 1 → (ρ c = 2 * k ↔ c = M 85 k) ∧ (ρ c = 2 * k + 1 ↔ c = M 86 k)) ∧ (ρ c = -1 ∨ (0 ≤ ρ c ∧ ρ c < 2 * M 84 1) ∨ (8 ≤ ρ c ∧ ρ c ≤ 10))
theorem kindAt_L2_ok (a : Nat) (ha : alen a = 4) (c : Int) (M : Mem) (hK : M 84 1 ≤ 4) : ∀ (r fuel : Nat) (k : Int), (M 84 1 - k).toNat = r → r < fuel → 0 ≤ k → k ≤ M 84 1 → (∀ j, 0 ≤ j → j < k → M a j ≠ c) →
    Ok (f_X10_kindAt_L2 fuel a c k M) (fun v => (v = -1 ∧ ∀ j, 0 ≤ j → j < M 84 1 → M a j ≠ c) ∨ (0 ≤ v ∧ v < M 84 1 ∧ M a v = c)) := by
  intro r
  induction r with
  | zero =>
    intro fuel k hr hf hk hk1 hj
    obtain ⟨fuel, rfl⟩ : ∃ f, fuel = f + 1 := ⟨fuel - 1, by omega⟩
    rw [f_X10_kindAt_L2]
    exact .ifT (by omega) (.ret (Or.inl ⟨rfl, fun j j0 j1 => hj j j0 (by omega)⟩))
  | succ r ih =>
    intro fuel k hr hf hk hk1 hj
    obtain ⟨fuel, rfl⟩ : ∃ f, fuel = f + 1 := ⟨fuel - 1, by omega⟩
    rw [f_X10_kindAt_L2]
    refine .ifF (by omega) (.ifT (by omega) (.ifC (fun h => .ret (Or.inr ⟨hk, by omega, h⟩)) (fun h => .let fun k1 ek => ?_)))
    rw [w32_of (by omega) (by omega)] at ek
    subst ek
    refine ih fuel (k + 1) (by omega) (by omega) (by omega) (by omega) (fun j j0 j1 => ?_)
    by_cases e : j = k
    · subst e; exact h
    · exact hj j j0 (by omega)
theorem kindAt_ok (a : Nat) (ha : alen a = 4) (c : Int) (M : Mem) (h1 : 1 ≤ M 84 1) (hK : M 84 1 ≤ 4) : Ok (f_X10_kindAt a c M) (fun v => (v = -1 ∧ ∀ j, 0 ≤ j → j < M 84 1 → M a j ≠ c) ∨ (0 ≤ v ∧ v < M 84 1 ∧ M a v = c)) := by
  unfold f_X10_kindAt
  exact kindAt_L2_ok a ha c M hK (M 84 1 - 0).toNat 4096 0 rfl (by omega) (by omega) (by omega) (fun j j0 j1 => by omega)
/-- a bracket noted, if there is one -/
def BR (p rol : Int) (M M' : Mem) : Prop := M' 84 26 = M 84 26 + (if rol = -1 then 0 else 1) ∧ (rol ≠ -1 → M' 93 (M 84 26) = p ∧ M' 94 (M 84 26) = rol / 2 ∧ M' 95 (M 84 26) = 1 - rol % 2) ∧ ∀ b i, ¬ (b = 84 ∧ i = 26) → ¬ ((b = 93 ∨ b = 94 ∨ b = 95) ∧ i = M 84 26) → M' b i = M b i
theorem bracket_K33_ok (p v3 v4 rol : Int) (M : Mem) (h0 : 0 ≤ M 84 26) (h1 : M 84 26 < 240) (hr : rol ≠ -1) (hro : rol = (if v3 = -1 then 2 * v4 + 1 else 2 * v3)) (hv : v3 = -1 → 0 ≤ v4) : Ok (f_X10_bracket_K33 p v3 v4 M) (BR p rol M) := by
  unfold f_X10_bracket_K33
  have fin : ∀ (M1 M2 M3 : Mem) (x y : Int), (∀ b i, M1 b i = if b = 93 ∧ i = M 84 26 then p else M b i) → (∀ b i, M2 b i = if b = 94 ∧ i = M 84 26 then x else M1 b i) → (∀ b i, M3 b i = if b = 95 ∧ i = M 84 26 then y else M2 b i) → x = rol / 2 → y = 1 - rol % 2 →
      Ok (lt1 (up M3 84 26 (w32 ((M3 84 26) + 1))) fun M89 => some M89) (BR p rol M) := by
    intro M1 M2 M3 x y e1 e2 e3 hx hy
    have a : M3 84 26 = M 84 26 := by rw [e3, if_neg (by omega), e2, if_neg (by omega), e1, if_neg (by omega)]
    rw [a, w32_of (by omega) (by omega)]
    refine .put fun M4 e4 => .ret ⟨?_, fun _ => ⟨?_, ?_, ?_⟩, fun b i hb hb2 => ?_⟩
    · rw [e4, if_pos ⟨rfl, rfl⟩, if_neg hr]
    · rw [e4, if_neg (by omega), e3, if_neg (by omega), e2, if_neg (by omega), e1, if_pos ⟨rfl, rfl⟩]
    · rw [e4, if_neg (by omega), e3, if_neg (by omega), e2, if_pos ⟨rfl, rfl⟩, hx]
    · rw [e4, if_neg (by omega), e3, if_pos ⟨rfl, rfl⟩, hy]
    · rw [e4, if_neg hb, e3, if_neg (by omega), e2, if_neg (by omega), e1, if_neg (by omega)]
  refine .ifT ⟨h0, h1⟩ (.put fun M1 e1 => ?_)
  have a1 : M1 84 26 = M 84 26 := by rw [e1, if_neg (by omega)]
  rw [a1]
  refine .ifC (fun h3 => .ifT ⟨h0, h1⟩ (.put fun M2 e2 => .ifT h3 ?_)) (fun h3 => .ifT ⟨h0, h1⟩ (.put fun M2 e2 => .ifF h3 ?_))
  · have a2 : M2 84 26 = M 84 26 := by rw [e2, if_neg (by omega), a1]
    rw [a2]
    rw [if_pos h3] at hro
    have := hv h3
    exact .ifT ⟨h0, h1⟩ (.put fun M3 e3 => fin M1 M2 M3 _ _ e1 e2 e3 (by omega) (by omega))
  · have a2 : M2 84 26 = M 84 26 := by rw [e2, if_neg (by omega), a1]
    rw [a2]
    rw [if_neg h3] at hro
    exact .ifT ⟨h0, h1⟩ (.put fun M3 e3 => fin M1 M2 M3 _ _ e1 e2 e3 (by omega) (by omega))
theorem bracket_ok {ρ : Int → Int} (p c : Int) (M : Mem) (hS : SgM ρ M) (hc : isTxt c) (h0 : 0 ≤ M 84 26) (h1 : M 84 26 < 240) : Ok (f_X10_bracket p c M) (BR p (rolS ρ (0, 0) c) M) := by
  obtain ⟨k1, k4, hS⟩ := hS
  obtain ⟨s1, s2, s3, s4, s5⟩ := hS c hc
  have hro : rolS ρ (0, 0) c = if ρ c < 8 then ρ c else -1 := by
    unfold rolS
    by_cases h : ρ c < 8
    · rw [if_pos ⟨rfl, h⟩, if_pos h]
    · rw [if_neg (fun q => h q.2), if_neg h]
  unfold f_X10_bracket
  refine .bind (kindAt_ok 85 rfl c M k1 k4) (fun v3 hv3 => .bind (kindAt_ok 86 rfl c M k1 k4) (fun v4 hv4 => ?_))
  have op : 0 ≤ v3 → ρ c = 2 * v3 := fun h => by
    rcases hv3 with ⟨e, _⟩ | ⟨e0, e1, e2⟩
    · omega
    · exact (s4 v3 e0 e1).1.mpr e2.symm
  have clo : 0 ≤ v4 → ρ c = 2 * v4 + 1 := fun h => by
    rcases hv4 with ⟨e, _⟩ | ⟨e0, e1, e2⟩
    · omega
    · exact (s4 v4 e0 e1).2.mpr e2.symm
  refine .ifC (fun h3 => .ifC (fun h4 => .ret ?_) (fun h4 => ?_)) (fun h3 => ?_)
  · have hn : rolS ρ (0, 0) c = -1 := by
      rw [hro]
      rcases s5 with e | ⟨e0, e1⟩ | ⟨e0, e1⟩
      · rw [if_pos (by omega), e]
      · exfalso
        by_cases hev : ρ c % 2 = 0
        · have := (s4 (ρ c / 2) (by omega) (by omega)).1.mp (by omega)
          rcases hv3 with ⟨_, e⟩ | ⟨q0, _⟩
          · exact e (ρ c / 2) (by omega) (by omega) this.symm
          · omega
        · have := (s4 (ρ c / 2) (by omega) (by omega)).2.mp (by omega)
          rcases hv4 with ⟨_, e⟩ | ⟨q0, _⟩
          · exact e (ρ c / 2) (by omega) (by omega) this.symm
          · omega
      · rw [if_neg (by omega)]
    rw [hn]
    exact ⟨by rw [if_pos rfl]; omega, fun h => absurd rfl h, fun b i _ _ => rfl⟩
  · have v40 : 0 ≤ v4 ∧ v4 < M 84 1 := by rcases hv4 with ⟨e, _⟩ | ⟨e0, e1, _⟩ <;> omega
    have := clo v40.1
    exact bracket_K33_ok p v3 v4 _ M h0 h1 (by rw [hro, if_pos (by omega)]; omega) (by rw [hro, if_pos (by omega), if_pos h3]; omega) (fun _ => v40.1)
  · have v30 : 0 ≤ v3 ∧ v3 < M 84 1 := by rcases hv3 with ⟨e, _⟩ | ⟨e0, e1, _⟩ <;> omega
    have := op v30.1
    exact bracket_K33_ok p v3 v4 _ M h0 h1 (by rw [hro, if_pos (by omega)]; omega) (by rw [hro, if_pos (by omega), if_neg h3]; omega) (fun h => absurd h h3)
