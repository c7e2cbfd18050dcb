/-! ===== the input: bytes appended ===== -/
theorem addFour_L3_ok (v : Int) : ∀ (r : Nat) (fuel : Nat) (s : Int) (M : Mem), s = 8 * (r : Int) - 8 → r < fuel → r ≤ 4 → 0 ≤ M 1 1 → M 1 1 + r ≤ 600 →
    Ok (f_X1_addFour_L3 fuel v s M) (fun M' => M' 1 1 = M 1 1 + r ∧ (∀ k : Int, 0 ≤ k → k < r → M' 2 (M 1 1 + k) = ian (ius v (s - 8 * k)) 255) ∧ ∀ b i, ¬ (b = 1 ∧ i = 1) → ¬ (b = 2 ∧ M 1 1 ≤ i ∧ i < M 1 1 + r) → M' b i = M b i) := by
  intro r
  induction r with
  | zero =>
    intro fuel s M hs hf h4 h0 h1
    obtain ⟨fuel, rfl⟩ : ∃ f, fuel = f + 1 := ⟨fuel - 1, by omega⟩
    rw [f_X1_addFour_L3]
    exact .ifT (by omega) (.ret ⟨by omega, fun k k0 k1 => by omega, fun b i _ _ => rfl⟩)
  | succ r ih =>
    intro fuel s M hs hf h4 h0 h1
    obtain ⟨fuel, rfl⟩ : ∃ f, fuel = f + 1 := ⟨fuel - 1, by omega⟩
    rw [f_X1_addFour_L3]
    refine .ifF (by omega) (.ifF (by omega) (.ifT (by omega) (.put fun M1 e1 => .put fun M2 e2 => .let fun s1 es => ?_)))
    have a1 : M1 1 1 = M 1 1 := by rw [e1, if_neg (by omega)]
    rw [a1, w32_of (by omega) (by omega)] at e2
    rw [w32_of (by omega) (by omega)] at es
    subst es
    have b1 : M2 1 1 = M 1 1 + 1 := by rw [e2, if_pos (by omega)]
    refine (ih fuel (s + -8) M2 (by omega) (by omega) (by omega) (by omega) (by omega)).mono (fun M3 h => ?_)
    obtain ⟨g1, g2, g3⟩ := h
    rw [b1] at g1 g2 g3
    refine ⟨by omega, fun k k0 k1 => ?_, fun b i hb1 hb2 => ?_⟩
    · by_cases hk : k = 0
      · subst hk
        rw [g3 2 _ (by omega) (by omega), e2, if_neg (by omega), e1, if_pos (by omega), show s - 8 * 0 = s by omega]
      · have := g2 (k - 1) (by omega) (by omega)
        rw [show M 1 1 + 1 + (k - 1) = M 1 1 + k by omega, show s + -8 - 8 * (k - 1) = s - 8 * k by omega] at this
        exact this
    · rw [g3 b i hb1 (by omega), e2, if_neg (by omega), e1, if_neg (by omega)]
theorem addFour_ok (v : Int) (M : Mem) (h0 : 0 ≤ M 1 1) (h1 : M 1 1 + 4 ≤ 600) :
    Ok (f_X1_addFour v M) (fun M' => M' 1 1 = M 1 1 + 4 ∧ (∀ k : Int, 0 ≤ k → k < 4 → M' 2 (M 1 1 + k) = ian (ius v (24 - 8 * k)) 255) ∧ ∀ b i, ¬ (b = 1 ∧ i = 1) → ¬ (b = 2 ∧ M 1 1 ≤ i ∧ i < M 1 1 + 4) → M' b i = M b i) :=
  addFour_L3_ok v 4 4096 24 M (by omega) (by omega) (by omega) h0 h1
theorem bytesOf_L3_ok (v : Int) : ∀ (r : Nat) (fuel : Nat) (s : Int) (M : Mem), s = 8 * (r : Int) - 8 → r < fuel → r ≤ 4 → 0 ≤ M 84 16 → M 84 16 + r ≤ 600 →
    Ok (f_X10_bytesOf_L3 fuel v s M) (fun M' => M' 84 16 = M 84 16 + r ∧ (∀ k : Int, 0 ≤ k → k < r → M' 91 (M 84 16 + k) = itb (itb (isr v (s - 8 * k)))) ∧ ∀ b i, ¬ (b = 84 ∧ i = 16) → ¬ (b = 91 ∧ M 84 16 ≤ i ∧ i < M 84 16 + r) → M' b i = M b i) := by
  intro r
  induction r with
  | zero =>
    intro fuel s M hs hf h4 h0 h1
    obtain ⟨fuel, rfl⟩ : ∃ f, fuel = f + 1 := ⟨fuel - 1, by omega⟩
    rw [f_X10_bytesOf_L3]
    exact .ifT (by omega) (.ret ⟨by omega, fun k k0 k1 => by omega, fun b i _ _ => rfl⟩)
  | succ r ih =>
    intro fuel s M hs hf h4 h0 h1
    obtain ⟨fuel, rfl⟩ : ∃ f, fuel = f + 1 := ⟨fuel - 1, by omega⟩
    rw [f_X10_bytesOf_L3]
    refine .ifF (by omega) (.ifT (by omega) (.put fun M1 e1 => .put fun M2 e2 => .let fun s1 es => ?_))
    have a1 : M1 84 16 = M 84 16 := by rw [e1, if_neg (by omega)]
    rw [a1, w32_of (by omega) (by omega)] at e2
    rw [w32_of (by omega) (by omega)] at es
    subst es
    have b1 : M2 84 16 = M 84 16 + 1 := by rw [e2, if_pos (by omega)]
    refine (ih fuel (s + -8) M2 (by omega) (by omega) (by omega) (by omega) (by omega)).mono (fun M3 h => ?_)
    obtain ⟨g1, g2, g3⟩ := h
    rw [b1] at g1 g2 g3
    refine ⟨by omega, fun k k0 k1 => ?_, fun b i hb1 hb2 => ?_⟩
    · by_cases hk : k = 0
      · subst hk
        rw [g3 91 _ (by omega) (by omega), e2, if_neg (by omega), e1, if_pos (by omega), show s - 8 * 0 = s by omega]
      · have := g2 (k - 1) (by omega) (by omega)
        rw [show M 84 16 + 1 + (k - 1) = M 84 16 + k by omega, show s + -8 - 8 * (k - 1) = s - 8 * k by omega] at this
        exact this
    · rw [g3 b i hb1 (by omega), e2, if_neg (by omega), e1, if_neg (by omega)]
theorem bytesOf_ok (v : Int) (M : Mem) (h0 : 0 ≤ M 84 16) (h1 : M 84 16 + 4 ≤ 600) :
    Ok (f_X10_bytesOf v M) (fun M' => M' 84 16 = M 84 16 + 4 ∧ (∀ k : Int, 0 ≤ k → k < 4 → M' 91 (M 84 16 + k) = itb (itb (isr v (24 - 8 * k)))) ∧ ∀ b i, ¬ (b = 84 ∧ i = 16) → ¬ (b = 91 ∧ M 84 16 ≤ i ∧ i < M 84 16 + 4) → M' b i = M b i) :=
  bytesOf_L3_ok v 4 4096 24 M (by omega) (by omega) (by omega) h0 h1
/-- the two inputs hold the same bytes -/
def InR (M : Mem) : Prop := M 84 16 = M 1 1 ∧ 0 ≤ M 1 1 ∧ M 1 1 ≤ 600 ∧ ∀ j, 0 ≤ j → j < M 1 1 → M 2 j = M 91 j % 256
/-- one number's bytes, behind both inputs: the class's from Ma to Mb, the model's from Na to Nb -/
theorem four_same {Ma Mb Na Nb : Mem} {v L : Int} (hv : inR v) (h1 : Ma 1 1 = L) (g1 : ∀ k : Int, 0 ≤ k → k < 4 → Mb 2 (Ma 1 1 + k) = ian (ius v (24 - 8 * k)) 255) (h2 : Na 84 16 = L) (g2 : ∀ k : Int, 0 ≤ k → k < 4 → Nb 91 (Na 84 16 + k) = itb (itb (isr v (24 - 8 * k)))) : ∀ j, L ≤ j → j < L + 4 → Mb 2 j = Nb 91 j % 256 := by
  intro j j0 j1
  have e1 := g1 (j - L) (by omega) (by omega)
  have e2 := g2 (j - L) (by omega) (by omega)
  rw [h1, show L + (j - L) = j by omega] at e1
  rw [h2, show L + (j - L) = j by omega] at e2
  rw [e1, e2, ← ian_mod, byte_same v hv (by omega)]
theorem itb_rg (a : Int) : -128 ≤ itb a ∧ itb a < 128 := by
  unfold itb
  rw [Int8.toInt_toInt32]
  have h1 := (Int32.ofInt a).toInt8.minValue_le_toInt
  have h2 := (Int32.ofInt a).toInt8.toInt_le
  simp only [Int8.toInt_minValue, Int8.toInt_maxValue] at h1 h2
  omega
/-- the model's bytes are bytes -/
def RgB (M : Mem) : Prop := ∀ j, 0 ≤ j → j < M 84 16 → -128 ≤ M 91 j ∧ M 91 j < 128
theorem append_ok {v1 v2 v3 v4 v5 : Int} (i1 : inR v1) (i2 : inR v2) (i3 : inR v3) (i4 : inR v4) (i5 : inR v5) {M : Mem} (h0 : InR M) (hb : RgB M) :
    Ok (f_law_0 v1 v2 v3 v4 v5 M) (fun M' => (InR M' ∧ RgB M') ∧ ∀ b i, ¬ (b = 1 ∧ i = 1) → b ≠ 2 → ¬ (b = 84 ∧ (i = 0 ∨ i = 16)) → b ≠ 91 → M' b i = M b i) := by
  obtain ⟨q1, q2, q3, q4⟩ := h0
  unfold f_law_0 f_X9_append f_X10_append
  rw [w32_of (i := M 1 1 + 20) (by omega) (by omega)]
  by_cases hc : M 1 1 + 20 ≤ 600
  · refine .bind (Q := fun p => p.1 = M 1 1 + 20 ∧ p.2 1 1 = M 1 1 + 20 ∧ (∀ j, 0 ≤ j → j < 4 → p.2 2 (M 1 1 + j) = ian (ius v1 (24 - 8 * j)) 255) ∧ (∀ j, 0 ≤ j → j < 4 → p.2 2 (M 1 1 + 4 + j) = ian (ius v2 (24 - 8 * j)) 255) ∧ (∀ j, 0 ≤ j → j < 4 → p.2 2 (M 1 1 + 8 + j) = ian (ius v3 (24 - 8 * j)) 255) ∧ (∀ j, 0 ≤ j → j < 4 → p.2 2 (M 1 1 + 12 + j) = ian (ius v4 (24 - 8 * j)) 255) ∧ (∀ j, 0 ≤ j → j < 4 → p.2 2 (M 1 1 + 16 + j) = ian (ius v5 (24 - 8 * j)) 255) ∧ ∀ b i, ¬ (b = 1 ∧ i = 1) → ¬ (b = 2 ∧ M 1 1 ≤ i) → p.2 b i = M b i) ?_ (fun p hp => ?_)
    · rw [if_pos hc]
      refine .bind (addFour_ok v1 M (by omega) (by omega)) (fun A1 ⟨a1, b1, c1⟩ => ?_)
      refine .bind (addFour_ok v2 A1 (by omega) (by omega)) (fun A2 ⟨a2, b2, c2⟩ => ?_)
      refine .bind (addFour_ok v3 A2 (by omega) (by omega)) (fun A3 ⟨a3, b3, c3⟩ => ?_)
      refine .bind (addFour_ok v4 A3 (by omega) (by omega)) (fun A4 ⟨a4, b4, c4⟩ => ?_)
      refine .bind (addFour_ok v5 A4 (by omega) (by omega)) (fun A5 ⟨a5, b5, c5⟩ => .ret ⟨by show A5 1 1 = _; omega, by show A5 1 1 = _; omega, ?_, ?_, ?_, ?_, ?_, ?_⟩)
      · intro j j0 j1
        show A5 2 (M 1 1 + j) = _
        rw [c5 2 (M 1 1 + j) (by omega) (by omega), c4 2 (M 1 1 + j) (by omega) (by omega), c3 2 (M 1 1 + j) (by omega) (by omega), c2 2 (M 1 1 + j) (by omega) (by omega), b1 j j0 j1]
      · intro j j0 j1
        show A5 2 (M 1 1 + 4 + j) = _
        have := b2 j j0 j1
        rw [a1] at this
        rw [c5 2 (M 1 1 + 4 + j) (by omega) (by omega), c4 2 (M 1 1 + 4 + j) (by omega) (by omega), c3 2 (M 1 1 + 4 + j) (by omega) (by omega), this]
      · intro j j0 j1
        show A5 2 (M 1 1 + 8 + j) = _
        have := b3 j j0 j1
        rw [show A2 1 1 = M 1 1 + 8 by omega] at this
        rw [c5 2 (M 1 1 + 8 + j) (by omega) (by omega), c4 2 (M 1 1 + 8 + j) (by omega) (by omega), this]
      · intro j j0 j1
        show A5 2 (M 1 1 + 12 + j) = _
        have := b4 j j0 j1
        rw [show A3 1 1 = M 1 1 + 12 by omega] at this
        rw [c5 2 (M 1 1 + 12 + j) (by omega) (by omega), this]
      · intro j j0 j1
        show A5 2 (M 1 1 + 16 + j) = _
        have := b5 j j0 j1
        rw [show A4 1 1 = M 1 1 + 16 by omega] at this
        exact this
      · intro b i hb hb2
        show A5 b i = _
        rw [c5 b i (by omega) (by omega), c4 b i (by omega) (by omega), c3 b i (by omega) (by omega), c2 b i (by omega) (by omega), c1 b i (by omega) (by omega)]
    · obtain ⟨p1, p2, d1, d2, d3, d4, d5, fr⟩ := hp
      refine .bind (Q := fun q => q.1 = M 1 1 + 20 ∧ q.2 84 16 = M 1 1 + 20 ∧ (∀ j, 0 ≤ j → j < 4 → q.2 91 (M 1 1 + j) = itb (itb (isr v1 (24 - 8 * j)))) ∧ (∀ j, 0 ≤ j → j < 4 → q.2 91 (M 1 1 + 4 + j) = itb (itb (isr v2 (24 - 8 * j)))) ∧ (∀ j, 0 ≤ j → j < 4 → q.2 91 (M 1 1 + 8 + j) = itb (itb (isr v3 (24 - 8 * j)))) ∧ (∀ j, 0 ≤ j → j < 4 → q.2 91 (M 1 1 + 12 + j) = itb (itb (isr v4 (24 - 8 * j)))) ∧ (∀ j, 0 ≤ j → j < 4 → q.2 91 (M 1 1 + 16 + j) = itb (itb (isr v5 (24 - 8 * j)))) ∧ ∀ b i, ¬ (b = 84 ∧ (i = 0 ∨ i = 16)) → ¬ (b = 91 ∧ M 1 1 ≤ i) → q.2 b i = p.2 b i) ?_ (fun q hq => ?_)
      · refine .put fun N0 e0 => ?_
        have n0 : N0 84 16 = M 1 1 := by rw [e0, if_neg (by omega), fr 84 16 (by omega) (by omega), q1]
        rw [n0, w32_of (i := M 1 1 + 20) (by omega) (by omega), if_pos hc]
        refine .bind (bytesOf_ok v1 N0 (by omega) (by omega)) (fun A1 ⟨a1, b1, c1⟩ => ?_)
        refine .bind (bytesOf_ok v2 A1 (by omega) (by omega)) (fun A2 ⟨a2, b2, c2⟩ => ?_)
        refine .bind (bytesOf_ok v3 A2 (by omega) (by omega)) (fun A3 ⟨a3, b3, c3⟩ => ?_)
        refine .bind (bytesOf_ok v4 A3 (by omega) (by omega)) (fun A4 ⟨a4, b4, c4⟩ => ?_)
        refine .bind (bytesOf_ok v5 A4 (by omega) (by omega)) (fun A5 ⟨a5, b5, c5⟩ => .ret ⟨by show A5 84 16 = _; omega, by show A5 84 16 = _; omega, ?_, ?_, ?_, ?_, ?_, ?_⟩)
        · intro j j0 j1
          show A5 91 (M 1 1 + j) = _
          have := b1 j j0 j1
          rw [n0] at this
          rw [c5 91 (M 1 1 + j) (by omega) (by omega), c4 91 (M 1 1 + j) (by omega) (by omega), c3 91 (M 1 1 + j) (by omega) (by omega), c2 91 (M 1 1 + j) (by omega) (by omega), this]
        · intro j j0 j1
          show A5 91 (M 1 1 + 4 + j) = _
          have := b2 j j0 j1
          rw [show A1 84 16 = M 1 1 + 4 by omega] at this
          rw [c5 91 (M 1 1 + 4 + j) (by omega) (by omega), c4 91 (M 1 1 + 4 + j) (by omega) (by omega), c3 91 (M 1 1 + 4 + j) (by omega) (by omega), this]
        · intro j j0 j1
          show A5 91 (M 1 1 + 8 + j) = _
          have := b3 j j0 j1
          rw [show A2 84 16 = M 1 1 + 8 by omega] at this
          rw [c5 91 (M 1 1 + 8 + j) (by omega) (by omega), c4 91 (M 1 1 + 8 + j) (by omega) (by omega), this]
        · intro j j0 j1
          show A5 91 (M 1 1 + 12 + j) = _
          have := b4 j j0 j1
          rw [show A3 84 16 = M 1 1 + 12 by omega] at this
          rw [c5 91 (M 1 1 + 12 + j) (by omega) (by omega), this]
        · intro j j0 j1
          show A5 91 (M 1 1 + 16 + j) = _
          have := b5 j j0 j1
          rw [show A4 84 16 = M 1 1 + 16 by omega] at this
          exact this
        · intro b i hb hb2
          show A5 b i = _
          rw [c5 b i (by omega) (by omega), c4 b i (by omega) (by omega), c3 b i (by omega) (by omega), c2 b i (by omega) (by omega), c1 b i (by omega) (by omega), e0, if_neg (by omega)]
      · obtain ⟨r1, r2, g1, g2, g3, g4, g5, gr⟩ := hq
        refine .ifT (by rw [p1, r1]) (.ret ⟨?_, fun b i hb1 hb2 hb3 hb4 => ?_⟩)
        · have x1 : q.2 1 1 = M 1 1 + 20 := by rw [gr 1 1 (by omega) (by omega), p2]
          refine ⟨⟨by rw [x1, r2], by omega, by omega, fun j j0 j1 => ?_⟩, fun j j0 j1 => ?_⟩
          rotate_left
          · rw [r2] at j1
            have rg : ∀ (v a : Int), (∀ j, 0 ≤ j → j < 4 → q.2 91 (a + j) = itb (itb (isr v (24 - 8 * j)))) → a ≤ j → j < a + 4 → -128 ≤ q.2 91 j ∧ q.2 91 j < 128 := by
              intro v a g h0 h1
              have e2 := g (j - a) (by omega) (by omega)
              rw [show a + (j - a) = j by omega] at e2
              rw [e2]
              exact itb_rg _
            by_cases k0 : j < M 1 1
            · rw [gr 91 j (by omega) (by omega), fr 91 j (by omega) (by omega)]
              exact hb j j0 (by omega)
            · by_cases k1 : j < M 1 1 + 4
              · exact rg v1 (M 1 1) g1 (by omega) k1
              · by_cases k2 : j < M 1 1 + 8
                · exact rg v2 (M 1 1 + 4) g2 (by omega) (by omega)
                · by_cases k3 : j < M 1 1 + 12
                  · exact rg v3 (M 1 1 + 8) g3 (by omega) (by omega)
                  · by_cases k4 : j < M 1 1 + 16
                    · exact rg v4 (M 1 1 + 12) g4 (by omega) (by omega)
                    · exact rg v5 (M 1 1 + 16) g5 (by omega) (by omega)
          rw [x1] at j1
          rw [gr 2 j (by omega) (by omega)]
          have byt : ∀ (v a : Int), inR v → (∀ j, 0 ≤ j → j < 4 → p.2 2 (a + j) = ian (ius v (24 - 8 * j)) 255) → (∀ j, 0 ≤ j → j < 4 → q.2 91 (a + j) = itb (itb (isr v (24 - 8 * j)))) → a ≤ j → j < a + 4 → p.2 2 j = q.2 91 j % 256 := by
            intro v a hv d g h0 h1
            have e1 := d (j - a) (by omega) (by omega)
            have e2 := g (j - a) (by omega) (by omega)
            rw [show a + (j - a) = j by omega] at e1 e2
            rw [e1, e2, ← ian_mod, byte_same v hv (by omega)]
          by_cases k0 : j < M 1 1
          · rw [fr 2 j (by omega) (by omega), q4 j j0 k0, gr 91 j (by omega) (by omega), fr 91 j (by omega) (by omega)]
          · by_cases k1 : j < M 1 1 + 4
            · exact byt v1 (M 1 1) i1 d1 g1 (by omega) k1
            · by_cases k2 : j < M 1 1 + 8
              · exact byt v2 (M 1 1 + 4) i2 d2 g2 (by omega) (by omega)
              · by_cases k3 : j < M 1 1 + 12
                · exact byt v3 (M 1 1 + 8) i3 d3 g3 (by omega) (by omega)
                · by_cases k4 : j < M 1 1 + 16
                  · exact byt v4 (M 1 1 + 12) i4 d4 g4 (by omega) (by omega)
                  · exact byt v5 (M 1 1 + 16) i5 d5 g5 (by omega) (by omega)
        · rw [gr b i hb3 (by omega), fr b i hb1 (by omega)]
  · refine .bind (.val (v := ((-1 : Int), M)) (by rw [if_neg hc])) (fun p hp => ?_)
    subst hp
    refine .bind (Q := fun q => q.1 = -1 ∧ ∀ b i, ¬ (b = 84 ∧ i = 0) → q.2 b i = M b i) ?_ (fun q hq => ?_)
    · refine .put fun N0 e0 => ?_
      have n0 : N0 84 16 = M 1 1 := by rw [e0, if_neg (by omega)]; exact q1
      rw [n0, w32_of (i := M 1 1 + 20) (by omega) (by omega), if_neg hc]
      exact .ret ⟨rfl, fun b i hb => by show N0 b i = _; rw [e0, if_neg (by omega)]⟩
    · obtain ⟨r1, r2⟩ := hq
      refine .ifT (by rw [r1]) (.ret ⟨⟨⟨?_, ?_, ?_, fun j j0 j1 => ?_⟩, fun j j0 j1 => ?_⟩, fun b i hb1 hb2 hb3 hb4 => r2 b i (by omega)⟩)
      · rw [r2 84 16 (by omega), r2 1 1 (by omega), q1]
      · rw [r2 1 1 (by omega)]; exact q2
      · rw [r2 1 1 (by omega)]; exact q3
      · rw [r2 1 1 (by omega)] at j1
        rw [r2 2 j (by omega), r2 91 j (by omega)]
        exact q4 j j0 j1
      · rw [r2 84 16 (by omega)] at j1
        rw [r2 91 j (by omega)]
        exact hb j j0 j1
