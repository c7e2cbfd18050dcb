/-! ===== the model's rows: bytes put in and taken out, rows copied ===== -/
def Fr1 (M M' : Mem) (a : Nat) : Prop := ∀ b, b ≠ a → ∀ i, M' b i = M b i
theorem Fr1.trans {M M1 M2 : Mem} {a : Nat} (h1 : Fr1 M M1 a) (h2 : Fr1 M1 M2 a) : Fr1 M M2 a := fun b hb i => (h2 b hb i).trans (h1 b hb i)
theorem Fr1.rf {M : Mem} {a : Nat} : Fr1 M M a := fun _ _ _ => rfl
theorem puts_L7_ok (a c : Int) (h0 : 0 ≤ a) {Q : Mem → Prop} : ∀ (r fuel : Nat) (k : Int) (M : Mem), (k - a).toNat = r → r < fuel → a ≤ k → k ≤ 239 →
    (∀ M1 : Mem, (∀ b i, M1 b i = if b = 90 ∧ 14 + a < i ∧ i ≤ 14 + k then M 90 (i - 1) else M b i) → Ok (f_X10_puts_K38 a c M1) Q) → Ok (f_X10_puts_L7 fuel a c k M) Q := by
  intro r
  induction r with
  | zero =>
    intro fuel k M hr hf hk h2 K
    obtain ⟨fuel, rfl⟩ : ∃ f, fuel = f + 1 := ⟨fuel - 1, by omega⟩
    rw [f_X10_puts_L7]
    refine .ifT (by omega) (K M fun b i => ?_)
    rw [if_neg (by omega)]
  | succ r ih =>
    intro fuel k M hr hf hk h2 K
    obtain ⟨fuel, rfl⟩ : ∃ f, fuel = f + 1 := ⟨fuel - 1, by omega⟩
    rw [f_X10_puts_L7]
    rw [w32_of (i := 14 + k) (by omega) (by omega), w32_of (i := 14 + k - 1) (by omega) (by omega)]
    refine .ifF (by omega) (.ifT (by omega) (.ifT (by omega) (.put fun M1 e1 => .let fun k1 ek => ?_)))
    rw [w32_of (by omega) (by omega)] at ek
    subst ek
    refine ih fuel (k + -1) M1 (by omega) (by omega) (by omega) (by omega) (fun M2 e2 => K M2 fun b i => ?_)
    rw [e2]
    by_cases hi : i = 14 + k
    · rw [if_neg (by omega), e1]
      by_cases hb : b = 90
      · rw [if_pos ⟨hb, hi⟩, if_pos (by omega), show i - 1 = 14 + k - 1 by omega]
      · rw [if_neg (by omega), if_neg (by omega)]
    · rw [e1, e1, if_neg (c := b = 90 ∧ i = 14 + k) (by omega)]
      by_cases hx : b = 90 ∧ 14 + a < i ∧ i ≤ 14 + k
      · rw [if_pos hx, if_pos (by omega), if_neg (by omega)]
      · rw [if_neg hx, if_neg (by omega)]
theorem puts_L60_ok (a : Int) : ∀ (r fuel : Nat) (k : Int) (M : Mem), (M 90 1 - k).toNat = r → r < fuel → 0 ≤ k → k ≤ M 90 1 → M 90 1 ≤ 8 → (∀ j, k ≤ j → j < M 90 1 → 0 ≤ M 90 (2 + j) ∧ M 90 (2 + j) ≤ 240) →
    Ok (f_X10_puts_L60 fuel a k M) (fun M' => ∀ b i, M' b i = if b = 90 ∧ 2 + k ≤ i ∧ i < 2 + M 90 1 then (if a ≤ M 90 i then M 90 i + 1 else M 90 i) else M b i) := by
  intro r
  induction r with
  | zero =>
    intro fuel k M hr hf hk hk3 h8 hm
    obtain ⟨fuel, rfl⟩ : ∃ f, fuel = f + 1 := ⟨fuel - 1, by omega⟩
    rw [f_X10_puts_L60]
    refine .ifT (by omega) (.ret fun b i => ?_)
    rw [if_neg (by omega)]
  | succ r ih =>
    intro fuel k M hr hf hk hk3 h8 hm
    obtain ⟨fuel, rfl⟩ : ∃ f, fuel = f + 1 := ⟨fuel - 1, by omega⟩
    have hmk := hm k (Int.le_refl _) (by omega)
    have step : ∀ (M1 : Mem) (v : Int), (∀ b i, M1 b i = if b = 90 ∧ i = 2 + k then v else M b i) → v = (if a ≤ M 90 (2 + k) then M 90 (2 + k) + 1 else M 90 (2 + k)) →
        Ok (f_X10_puts_L60 fuel a (k + 1) M1) (fun M' => ∀ b i, M' b i = if b = 90 ∧ 2 + k ≤ i ∧ i < 2 + M 90 1 then (if a ≤ M 90 i then M 90 i + 1 else M 90 i) else M b i) := by
      intro M1 v e0 hv
      have o3 : M1 90 1 = M 90 1 := by rw [e0, if_neg (by omega)]
      refine (ih fuel (k + 1) M1 (by rw [o3]; omega) (by omega) (by omega) (by rw [o3]; omega) (by rw [o3]; exact h8) (fun j j0 j1 => ?_)).mono (fun M' h b i => ?_)
      · rw [o3] at j1
        rw [e0, if_neg (by omega)]
        exact hm j (by omega) j1
      · rw [h, o3]
        by_cases hi : i = 2 + k
        · subst hi
          rw [if_neg (by omega), e0]
          by_cases hb : b = 90
          · subst hb
            rw [if_pos ⟨rfl, rfl⟩, if_pos (by omega), hv]
          · rw [if_neg (by omega), if_neg (by omega)]
        · have e2 : ∀ b, M1 b i = M b i := fun b => by rw [e0, if_neg (by omega)]
          rw [e2, e2]
          by_cases hx : b = 90 ∧ 2 + k ≤ i ∧ i < 2 + M 90 1
          · rw [if_pos hx, if_pos (by omega)]
          · rw [if_neg hx, if_neg (by omega)]
    rw [f_X10_puts_L60]
    rw [w32_of (i := 2 + k) (by omega) (by omega), w32_of (i := M 90 (2 + k) + 0) (by omega) (by omega), w32_of (i := M 90 (2 + k) + 1) (by omega) (by omega), w32_of (i := k + 1) (by omega) (by omega)]
    refine .ifF (by omega) (.ifT (by omega) (.ifC (fun hc => .put fun M1 e0 => .let fun k1 e1 => ?_) (fun hc => .put fun M1 e0 => .let fun k1 e1 => ?_)))
    · subst e1
      exact step M1 _ e0 (by rw [if_neg (by omega)]; omega)
    · subst e1
      exact step M1 _ e0 (by rw [if_pos (by omega)])
theorem puts_ok (a c : Int) (M : Mem) {P : Pg} (hP : PgM M 90 0 P) (hW : Wf P) (h0 : 0 ≤ a) (h1 : a ≤ P.len) (hl : P.len + 1 ≤ 240) : Ok (f_X10_puts a c M) (fun M' => PgM M' 90 0 (putN P a 1 (fun _ => c)) ∧ Fr1 M M' 90) := by
  obtain ⟨q1, q2, q3, q4, q5, q6, q7, q8⟩ := hP
  have l0 := hW.l0
  have m0 := hW.m0
  have m1 := hW.m1
  simp only [Int.zero_add] at q2 q3 q4 q5 q6 q7 q8
  unfold f_X10_puts
  refine .let fun k ek => ?_
  subst ek
  refine puts_L7_ok a c h0 (M 90 0 - a).toNat 4096 (M 90 0) M rfl (by omega) (by omega) (by omega) (fun M1 e1 => ?_)
  unfold f_X10_puts_K38
  rw [w32_of (i := 14 + a) (by omega) (by omega)]
  refine .ifT (by omega) (.put fun M2 e2 => .put fun M3 e3 => ?_)
  have a0 : M2 90 0 = P.len := by rw [e2, if_neg (by omega), e1, if_neg (by omega), q1]
  rw [a0, w32_of (by omega) (by omega)] at e3
  have am : ∀ i, 1 ≤ i → i < 14 → M3 90 i = M 90 i := fun i i0 i1 => by rw [e3, if_neg (by omega), e2, if_neg (by omega), e1, if_neg (by omega)]
  have a1 : M3 90 1 = P.mk := by rw [am 1 (by omega) (by omega), q2]
  refine (puts_L60_ok a (M3 90 1 - 0).toNat 4096 0 M3 rfl (by omega) (by omega) (by omega) (by omega) (fun j j0 j1 => ?_)).mono (fun M4 e4 => ?_)
  · rw [am _ (by omega) (by omega), q8 j j0 (by omega)]
    have := hW.mt j j0 (by omega)
    omega
  · refine ⟨⟨?_, ?_, ?_, ?_, ?_, ?_, fun p p0 p1 => ?_, fun k k0 k1 => ?_⟩, fun b b0 i => ?_⟩
    · rw [e4, if_neg (by omega), e3, if_pos (by omega)]; rfl
    · rw [e4, if_neg (by omega)]; exact a1
    · rw [e4, if_neg (by omega), am _ (by omega) (by omega)]; exact q3
    · rw [e4, if_neg (by omega), am _ (by omega) (by omega)]; exact q4
    · rw [e4, if_neg (by omega), am _ (by omega) (by omega)]; exact q5
    · rw [e4, if_neg (by omega), am _ (by omega) (by omega)]; exact q6
    · have p1 : p < P.len + 1 := p1
      show _ = if p < a then P.b p else if p < a + 1 then c else P.b (p - 1)
      rw [e4, if_neg (by omega), e3, if_neg (by omega), e2]
      by_cases h : p < a
      · rw [if_neg (by omega), if_pos h, e1, if_neg (by omega), Int.zero_add, q7 p p0 (by omega)]
      · rw [if_neg h]
        by_cases h2 : p < a + 1
        · rw [if_pos (by omega), if_pos h2]
        · rw [if_neg (by omega), if_neg h2, e1, if_pos (by omega), show (0 : Int) + 14 + p - 1 = 14 + (p - 1) by omega, q7 _ (by omega) (by omega)]
    · have k1 : k < P.mk := k1
      show _ = if a ≤ P.m k then P.m k + 1 else P.m k
      rw [e4, if_pos (by omega), Int.zero_add, am _ (by omega) (by omega), q8 k k0 k1]
    · rw [e4, if_neg (by omega), e3, if_neg (by omega), e2, if_neg (by omega), e1, if_neg (by omega)]
theorem takesOut_L54_ok (f t : Int) (h0 : 0 ≤ f) (h1 : f ≤ t) (h2 : t ≤ 240) : ∀ (r fuel : Nat) (k : Int) (M : Mem), (M 90 1 - k).toNat = r → r < fuel → 0 ≤ k → k ≤ M 90 1 → M 90 1 ≤ 8 → (∀ j, k ≤ j → j < M 90 1 → 0 ≤ M 90 (2 + j) ∧ M 90 (2 + j) ≤ 240) →
    Ok (f_X10_takesOut_L54 fuel f t k M) (fun M' => ∀ b i, M' b i = if b = 90 ∧ 2 + k ≤ i ∧ i < 2 + M 90 1 then (if t < M 90 i then M 90 i - (t - f) else if f < M 90 i then f else M 90 i) else M b i) := by
  intro r
  induction r with
  | zero =>
    intro fuel k M hr hf hk hk3 h8 hm
    obtain ⟨fuel, rfl⟩ : ∃ f, fuel = f + 1 := ⟨fuel - 1, by omega⟩
    rw [f_X10_takesOut_L54]
    refine .ifT (by omega) (.ret fun b i => ?_)
    rw [if_neg (by omega)]
  | succ r ih =>
    intro fuel k M hr hf hk hk3 h8 hm
    obtain ⟨fuel, rfl⟩ : ∃ f, fuel = f + 1 := ⟨fuel - 1, by omega⟩
    have hmk := hm k (Int.le_refl _) (by omega)
    have step : ∀ (M1 : Mem) (v : Int), (∀ b i, M1 b i = if b = 90 ∧ i = 2 + k then v else M b i) → v = (if t < M 90 (2 + k) then M 90 (2 + k) - (t - f) else if f < M 90 (2 + k) then f else M 90 (2 + k)) →
        Ok (f_X10_takesOut_L54 fuel f t (k + 1) M1) (fun M' => ∀ b i, M' b i = if b = 90 ∧ 2 + k ≤ i ∧ i < 2 + M 90 1 then (if t < M 90 i then M 90 i - (t - f) else if f < M 90 i then f else M 90 i) else M b i) := by
      intro M1 v e0 hv
      have o3 : M1 90 1 = M 90 1 := by rw [e0, if_neg (by omega)]
      refine (ih fuel (k + 1) M1 (by rw [o3]; omega) (by omega) (by omega) (by rw [o3]; omega) (by rw [o3]; exact h8) (fun j j0 j1 => ?_)).mono (fun M' h b i => ?_)
      · rw [o3] at j1
        rw [e0, if_neg (by omega)]
        exact hm j (by omega) j1
      · rw [h, o3]
        by_cases hi : i = 2 + k
        · subst hi
          rw [if_neg (by omega), e0]
          by_cases hb : b = 90
          · subst hb
            rw [if_pos ⟨rfl, rfl⟩, if_pos (by omega), hv]
          · rw [if_neg (by omega), if_neg (by omega)]
        · have e2 : ∀ b, M1 b i = M b i := fun b => by rw [e0, if_neg (by omega)]
          rw [e2, e2]
          by_cases hx : b = 90 ∧ 2 + k ≤ i ∧ i < 2 + M 90 1
          · rw [if_pos hx, if_pos (by omega)]
          · rw [if_neg hx, if_neg (by omega)]
    rw [f_X10_takesOut_L54]
    rw [w32_of (i := 2 + k) (by omega) (by omega), w32_of (i := k + 1) (by omega) (by omega), w32_of (i := t - f) (by omega) (by omega)]
    refine .ifF (by omega) (.ifT (by omega) (.let fun v ev => ?_))
    subst ev
    rw [w32_of (i := M 90 (2 + k) - (t - f)) (by omega) (by omega)]
    refine .ifC (fun hc => .ifC (fun hd => .put fun M1 e0 => .let fun k1 e1 => ?_) (fun hd => .put fun M1 e0 => .let fun k1 e1 => ?_)) (fun hc => .put fun M1 e0 => .let fun k1 e1 => ?_)
    · subst e1
      exact step M1 _ e0 (by rw [if_neg (by omega), if_neg (by omega)])
    · subst e1
      refine step M1 _ e0 ?_
      rw [if_neg (by omega)]
      by_cases h : f < M 90 (2 + k)
      · rw [if_pos h]
      · rw [if_neg h]; omega
    · subst e1
      exact step M1 _ e0 (by rw [if_pos (by omega)])
theorem takesOut_L2_ok (f t : Int) (h0 : 0 ≤ f) (h1 : f ≤ t) {Q : Mem → Prop} : ∀ (r fuel : Nat) (k : Int) (M : Mem), (M 90 0 - k).toNat = r → r < fuel → t ≤ k → k ≤ M 90 0 → M 90 0 ≤ 240 →
    (∀ M1 : Mem, (∀ b i, M1 b i = if b = 90 ∧ 14 + f + (k - t) ≤ i ∧ i < 14 + f + (M 90 0 - t) then M 90 (i + (t - f)) else M b i) → Ok (f_X10_takesOut_K40 f t M1) Q) → Ok (f_X10_takesOut_L2 fuel f t k M) Q := by
  intro r
  induction r with
  | zero =>
    intro fuel k M hr hf hk hk2 h2 K
    obtain ⟨fuel, rfl⟩ : ∃ f, fuel = f + 1 := ⟨fuel - 1, by omega⟩
    rw [f_X10_takesOut_L2]
    refine .ifT (by omega) (K M fun b i => ?_)
    rw [if_neg (by omega)]
  | succ r ih =>
    intro fuel k M hr hf hk hk2 h2 K
    obtain ⟨fuel, rfl⟩ : ∃ f, fuel = f + 1 := ⟨fuel - 1, by omega⟩
    rw [f_X10_takesOut_L2]
    rw [w32_of (i := 14 + k) (by omega) (by omega), w32_of (i := 14 + f) (by omega) (by omega), w32_of (i := 14 + f + k) (by omega) (by omega), w32_of (i := 14 + f + k - t) (by omega) (by omega)]
    refine .ifF (by omega) (.ifT (by omega) (.ifT (by omega) (.put fun M1 e1 => .let fun k1 ek => ?_)))
    rw [w32_of (by omega) (by omega)] at ek
    subst ek
    have o0 : M1 90 0 = M 90 0 := by rw [e1, if_neg (by omega)]
    refine ih fuel (k + 1) M1 (by omega) (by omega) (by omega) (by omega) (by omega) (fun M2 e2 => K M2 fun b i => ?_)
    rw [e2, o0]
    by_cases hi : i = 14 + f + k - t
    · rw [if_neg (by omega), e1]
      by_cases hb : b = 90
      · rw [if_pos ⟨hb, hi⟩, if_pos (by omega), show i + (t - f) = 14 + k by omega]
      · rw [if_neg (by omega), if_neg (by omega)]
    · rw [e1 b i, if_neg (c := b = 90 ∧ i = 14 + f + k - t) (by omega)]
      by_cases hx : b = 90 ∧ 14 + f + (k - t) ≤ i ∧ i < 14 + f + (M 90 0 - t)
      · rw [if_pos hx, if_pos (by omega), e1, if_neg (by omega)]
      · rw [if_neg hx, if_neg (by omega)]
theorem takesOut_ok (f t : Int) (M : Mem) {P : Pg} (hP : PgM M 90 0 P) (hW : Wf P) (h0 : 0 ≤ f) (h1 : f ≤ t) (h2 : t ≤ P.len) : Ok (f_X10_takesOut f t M) (fun M' => PgM M' 90 0 (takeP P f t) ∧ Fr1 M M' 90) := by
  obtain ⟨q1, q2, q3, q4, q5, q6, q7, q8⟩ := hP
  have l0 := hW.l0
  have l1 := hW.l1
  have m0 := hW.m0
  have m1 := hW.m1
  simp only [Int.zero_add] at q2 q3 q4 q5 q6 q7 q8
  unfold f_X10_takesOut
  refine takesOut_L2_ok f t h0 h1 (M 90 0 - t).toNat 4096 t M rfl (by omega) (by omega) (by omega) (by omega) (fun M1 e1 => ?_)
  unfold f_X10_takesOut_K40
  have a0 : M1 90 0 = P.len := by rw [e1, if_neg (by omega), q1]
  rw [a0, w32_of (i := t - f) (by omega) (by omega), w32_of (i := P.len - (t - f)) (by omega) (by omega)]
  refine .put fun M3 e3 => ?_
  have am : ∀ i, 1 ≤ i → i < 14 → M3 90 i = M 90 i := fun i i0 i1 => by rw [e3, if_neg (by omega), e1, if_neg (by omega)]
  have a1 : M3 90 1 = P.mk := by rw [am 1 (by omega) (by omega), q2]
  refine (takesOut_L54_ok f t h0 h1 (by omega) (M3 90 1 - 0).toNat 4096 0 M3 rfl (by omega) (by omega) (by omega) (by omega) (fun j j0 j1 => ?_)).mono (fun M4 e4 => ?_)
  · rw [am _ (by omega) (by omega), q8 j j0 (by omega)]
    have := hW.mt j j0 (by omega)
    omega
  · refine ⟨⟨?_, ?_, ?_, ?_, ?_, ?_, fun p p0 p1 => ?_, fun k k0 k1 => ?_⟩, fun b b0 i => ?_⟩
    · rw [e4, if_neg (by omega), e3, if_pos (by omega)]; rfl
    · rw [e4, if_neg (by omega)]; exact a1
    · rw [e4, if_neg (by omega), am _ (by omega) (by omega)]; exact q3
    · rw [e4, if_neg (by omega), am _ (by omega) (by omega)]; exact q4
    · rw [e4, if_neg (by omega), am _ (by omega) (by omega)]; exact q5
    · rw [e4, if_neg (by omega), am _ (by omega) (by omega)]; exact q6
    · have p1 : p < P.len - (t - f) := p1
      show _ = if p < f then P.b p else P.b (p + (t - f))
      rw [e4, if_neg (by omega), e3, if_neg (by omega), e1]
      by_cases h : p < f
      · rw [if_neg (by omega), if_pos h, Int.zero_add, q7 p p0 (by omega)]
      · rw [if_pos (by omega), if_neg h, show (0 : Int) + 14 + p + (t - f) = 14 + (p + (t - f)) by omega, q7 _ (by omega) (by omega)]
    · have k1 : k < P.mk := k1
      show _ = if t < P.m k then P.m k - (t - f) else if f < P.m k then f else P.m k
      rw [e4, if_pos (by omega), Int.zero_add, am _ (by omega) (by omega), q8 k k0 k1]
    · rw [e4, if_neg (by omega), e3, if_neg (by omega), e1, if_neg (by omega)]
/-- a row copied onto one that lies elsewhere, or ahead of it in the same array -/
theorem copies_L3_ok (o p : Nat) (a c : Int) (ha : 0 ≤ a) (hc : 0 ≤ c) (ha2 : a + 254 ≤ alen o) (hc2 : c + 254 ≤ alen p) (hb : a ≤ 100000) (hb2 : c ≤ 100000) (hd : o ≠ p ∨ c + 254 ≤ a) : ∀ (r fuel : Nat) (k : Int) (M : Mem), (254 - k).toNat = r → r < fuel → 0 ≤ k → k ≤ 254 →
    Ok (f_X10_copies_L3 fuel o a p c k M) (fun M' => ∀ b i, M' b i = if b = p ∧ c + k ≤ i ∧ i < c + 254 then M o (a + (i - c)) else M b i) := by
  intro r
  induction r with
  | zero =>
    intro fuel k M hr hf hk hk2
    obtain ⟨fuel, rfl⟩ : ∃ f, fuel = f + 1 := ⟨fuel - 1, by omega⟩
    rw [f_X10_copies_L3]
    refine .ifT (by omega) (.ret fun b i => ?_)
    rw [if_neg (by omega)]
  | succ r ih =>
    intro fuel k M hr hf hk hk2
    obtain ⟨fuel, rfl⟩ : ∃ f, fuel = f + 1 := ⟨fuel - 1, by omega⟩
    rw [f_X10_copies_L3]
    rw [w32_of (i := a + k) (by omega) (by omega), w32_of (i := c + k) (by omega) (by omega), w32_of (i := k + 1) (by omega) (by omega)]
    refine .ifF (by omega) (.ifT (by omega) (.ifT (by omega) (.put fun M1 e1 => .let fun k1 ek => ?_)))
    subst ek
    refine (ih fuel (k + 1) M1 (by omega) (by omega) (by omega) (by omega)).mono (fun M2 e2 b i => ?_)
    rw [e2]
    by_cases hi : i = c + k
    · rw [if_neg (by omega), e1]
      by_cases hb : b = p
      · rw [if_pos ⟨hb, hi⟩, if_pos (by omega), show a + (i - c) = a + k by omega]
      · rw [if_neg (by omega), if_neg (by omega)]
    · rw [e1 b i, if_neg (c := b = p ∧ i = c + k) (by omega)]
      by_cases hx : b = p ∧ c + k ≤ i ∧ i < c + 254
      · rw [if_pos hx, if_pos (by omega), e1, if_neg (by omega)]
      · rw [if_neg hx, if_neg (by omega)]
theorem copies_ok (o p : Nat) (a c : Int) (ha : 0 ≤ a) (hc : 0 ≤ c) (ha2 : a + 254 ≤ alen o) (hc2 : c + 254 ≤ alen p) (hb : a ≤ 100000) (hb2 : c ≤ 100000) (hd : o ≠ p ∨ c + 254 ≤ a) (M : Mem) : Ok (f_X10_copies o a p c M) (fun M' => ∀ b i, M' b i = if b = p ∧ c ≤ i ∧ i < c + 254 then M o (a + (i - c)) else M b i) := by
  unfold f_X10_copies
  refine (copies_L3_ok o p a c ha hc ha2 hc2 hb hb2 hd 254 4096 0 M rfl (by omega) (by omega) (by omega)).mono (fun M' e b i => ?_)
  rw [e]
  by_cases hx : b = p ∧ c ≤ i ∧ i < c + 254
  · rw [if_pos hx, if_pos (by omega)]
  · rw [if_neg hx, if_neg (by omega)]
/-- a row's content goes with it -/
theorem PgM.copied {M M' : Mem} {o p : Nat} {a c : Int} {P : Pg} (hP : PgM M o a P) (hW : Wf P) (h : ∀ i, c ≤ i → i < c + 254 → M' p i = M o (a + (i - c))) : PgM M' p c P := by
  obtain ⟨q1, q2, q3, q4, q5, q6, q7, q8⟩ := hP
  have l0 := hW.l0
  have l1 := hW.l1
  have m0 := hW.m0
  have m1 := hW.m1
  refine ⟨?_, ?_, ?_, ?_, ?_, ?_, fun i i0 i1 => ?_, fun k k0 k1 => ?_⟩
  · rw [h _ (by omega) (by omega), show a + (c - c) = a by omega]; exact q1
  · rw [h _ (by omega) (by omega), show a + (c + 1 - c) = a + 1 by omega]; exact q2
  · rw [h _ (by omega) (by omega), show a + (c + 10 - c) = a + 10 by omega]; exact q3
  · rw [h _ (by omega) (by omega), show a + (c + 11 - c) = a + 11 by omega]; exact q4
  · rw [h _ (by omega) (by omega), show a + (c + 12 - c) = a + 12 by omega]; exact q5
  · rw [h _ (by omega) (by omega), show a + (c + 13 - c) = a + 13 by omega]; exact q6
  · rw [h _ (by omega) (by omega), show a + (c + 14 + i - c) = a + 14 + i by omega]; exact q7 i i0 i1
  · rw [h _ (by omega) (by omega), show a + (c + 2 + k - c) = a + 2 + k by omega]; exact q8 k k0 k1
theorem PgM.same {M M' : Mem} {a : Nat} {r : Int} {P : Pg} (hP : PgM M a r P) (h : ∀ i, M' a i = M a i) : PgM M' a r P := by
  obtain ⟨q1, q2, q3, q4, q5, q6, q7, q8⟩ := hP
  exact ⟨(h _).trans q1, (h _).trans q2, (h _).trans q3, (h _).trans q4, (h _).trans q5, (h _).trans q6, fun p p0 p1 => (h _).trans (q7 p p0 p1), fun k k0 k1 => (h _).trans (q8 k k0 k1)⟩
theorem PgC.same {M M' : Mem} {o : Nat} {P : Pg} (hP : PgC M o P) (h0 : ∀ i, M' o i = M o i) (h1 : ∀ i, M' (o + 1) i = M (o + 1) i) (h2 : ∀ i, M' (o + 2) i = M (o + 2) i) : PgC M' o P := by
  obtain ⟨q1, q2, q3, q4, q5, q6, q7, q8⟩ := hP
  exact ⟨(h0 _).trans q1, (h0 _).trans q2, (h0 _).trans q3, (h0 _).trans q4, (h0 _).trans q5, (h0 _).trans q6, fun p p0 p1 => (h1 _).trans (q7 p p0 p1), fun k k0 k1 => (h2 _).trans (q8 k k0 k1)⟩
