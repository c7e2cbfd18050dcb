/-! ===== pages of the class: bytes of the input put in, bytes taken out, marks ===== -/
theorem ibyteAt_ok (v : Int) (M : Mem) : f_X1_byteAt v M = some (if 0 ≤ v ∧ v < 600 then M 2 v else -1) := by
  unfold f_X1_byteAt
  by_cases h : v < 0
  · rw [if_pos h, if_neg (by omega)]
  · rw [if_neg h]
    by_cases h2 : 600 ≤ v
    · rw [if_pos h2, if_neg (by omega)]
    · rw [if_neg h2, if_pos (by omega), if_pos (by omega)]
theorem putIn_L9_ok (o : Nat) (ho : o ≠ 2) (ho1 : o + 1 ≠ 2) (a n : Int) (h0 : 0 ≤ a) (hn : n ≤ 240) : ∀ (r fuel : Nat) (k : Int) (M : Mem), (n - k).toNat = r → r < fuel → 0 ≤ k → a + n ≤ M o 2 → M o 2 ≤ 240 →
    Ok (f_X4_putIn_L9 fuel o a n k M) (fun M' => ∀ b i, M' b i = if b = o + 1 ∧ a + k ≤ i ∧ i < a + n then M 2 (i - a) else M b i) := by
  intro r
  induction r with
  | zero =>
    intro fuel k M hr hf hk hl h2
    obtain ⟨fuel, rfl⟩ : ∃ f, fuel = f + 1 := ⟨fuel - 1, by omega⟩
    rw [f_X4_putIn_L9]
    refine .ifT (by omega) (.ret fun b i => ?_)
    rw [if_neg (by omega)]
  | succ r ih =>
    intro fuel k M hr hf hk hl h2
    obtain ⟨fuel, rfl⟩ : ∃ f, fuel = f + 1 := ⟨fuel - 1, by omega⟩
    rw [f_X4_putIn_L9]
    refine .ifF (by omega) (.bind (.val (ibyteAt_ok k M)) (fun p hp => ?_))
    rw [if_pos (by omega)] at hp
    rw [w32_of (i := a + k) (by omega) (by omega)]
    refine .bind (setByte_ok o (a + k) p M (by omega) (by omega) h2) (fun M1 e1 => .let fun k1 ek => ?_)
    rw [w32_of (by omega) (by omega)] at ek
    subst ek
    have o2 : M1 o 2 = M o 2 := by rw [e1, if_neg (by omega)]
    refine (ih fuel (k + 1) M1 (by omega) (by omega) (by omega) (by omega) (by omega)).mono (fun M' h b i => ?_)
    rw [h]
    have s2 : ∀ j, M1 2 j = M 2 j := fun j => by rw [e1, if_neg (by omega)]
    rw [s2]
    by_cases hi : i = a + k
    · rw [if_neg (by omega), e1]
      by_cases hb : b = o + 1
      · rw [if_pos ⟨hb, hi⟩, if_pos (by omega), hp, show i - a = k by omega]
      · rw [if_neg (by omega), if_neg (by omega)]
    · rw [e1, if_neg (c := b = o + 1 ∧ i = a + k) (by omega)]
      by_cases hx : b = o + 1 ∧ a + k ≤ i ∧ i < a + n
      · rw [if_pos hx, if_pos (by omega)]
      · rw [if_neg hx, if_neg (by omega)]
theorem putIn_ok (o : Nat) (ho : o ≠ 2) (ho1 : o + 1 ≠ 2) (ho2 : o + 2 ≠ 2) (a n : Int) (M : Mem) {P : Pg} (hP : PgC M o P) (hW : Wf P) (h0 : 0 ≤ a) (h1 : a ≤ P.len) (hn : 0 ≤ n) (hl : P.len + n ≤ 240) : Ok (f_X4_putIn o a n M) (fun M' => PgC M' o (putN P a n (M 2)) ∧ Fr3 M M' o) := by
  have l0 := hW.l0
  unfold f_X4_putIn
  refine .bind (makeRoom_ok o a n M hP hW h0 h1 hn hl) (fun M1 h => ?_)
  obtain ⟨q1, q2, q3, q4, q5, q6, q7, q8, q9, fr⟩ := h
  refine (putIn_L9_ok o ho ho1 a n h0 (by omega) (n - 0).toNat 4096 0 M1 rfl (by omega) (by omega) (by omega) (by omega)).mono (fun M2 e => ⟨⟨?_, ?_, ?_, ?_, ?_, ?_, fun p p0 p1 => ?_, fun k k0 k1 => ?_⟩, fun b b0 b1 b2 i => ?_⟩)
  · rw [e, if_neg (by omega)]; exact q1
  · rw [e, if_neg (by omega)]; exact q2
  · rw [e, if_neg (by omega)]; exact q3
  · rw [e, if_neg (by omega)]; exact q4
  · rw [e, if_neg (by omega)]; exact q5
  · rw [e, if_neg (by omega)]; exact q6
  · have p1 : p < P.len + n := p1
    show M2 (o + 1) p = if p < a then P.b p else if p < a + n then M 2 (p - a) else P.b (p - n)
    rw [e]
    by_cases h : p < a
    · rw [if_neg (by omega), if_pos h, q7 p p0 h]
    · rw [if_neg h]
      by_cases h2 : p < a + n
      · rw [if_pos (by omega), if_pos h2, fr 2 (by omega) (by omega) (by omega)]
      · rw [if_neg (by omega), if_neg h2, q8 p (by omega) (by omega)]
  · rw [e, if_neg (by omega)]; exact q9 k k0 k1
  · rw [e, if_neg (by omega)]; exact fr b b0 b1 b2 i
theorem takeOut_L43_ok (o : Nat) (f t : Int) (h0 : 0 ≤ f) (h1 : f ≤ t) (h2 : t ≤ 240) : ∀ (r fuel : Nat) (k : Int) (M : Mem), (M o 3 - k).toNat = r → r < fuel → 0 ≤ k → k ≤ M o 3 → M o 3 ≤ 8 → (∀ j, k ≤ j → j < M o 3 → 0 ≤ M (o + 2) j ∧ M (o + 2) j ≤ 240) →
    Ok (f_X4_takeOut_L43 fuel o f t k M) (fun M' => ∀ b i, M' b i = if b = o + 2 ∧ k ≤ i ∧ i < M o 3 then (if t < M (o + 2) i then M (o + 2) i - (t - f) else if f < M (o + 2) i then f else M (o + 2) i) else M b i) := by
  intro r
  induction r with
  | zero =>
    intro fuel k M hr hf hk hk3 h8 hm
    obtain ⟨fuel, rfl⟩ : ∃ f, fuel = f + 1 := ⟨fuel - 1, by omega⟩
    rw [f_X4_takeOut_L43]
    refine .ifT (by omega) (.ret fun b i => ?_)
    rw [if_neg (by omega)]
  | succ r ih =>
    intro fuel k M hr hf hk hk3 h8 hm
    obtain ⟨fuel, rfl⟩ : ∃ f, fuel = f + 1 := ⟨fuel - 1, by omega⟩
    have hmk := hm k (Int.le_refl _) (by omega)
    have step : ∀ (M1 : Mem) (v : Int), (∀ b i, M1 b i = if b = o + 2 ∧ i = k then v else M b i) → v = (if t < M (o + 2) k then M (o + 2) k - (t - f) else if f < M (o + 2) k then f else M (o + 2) k) →
        Ok (f_X4_takeOut_L43 fuel o f t (k + 1) M1) (fun M' => ∀ b i, M' b i = if b = o + 2 ∧ k ≤ i ∧ i < M o 3 then (if t < M (o + 2) i then M (o + 2) i - (t - f) else if f < M (o + 2) i then f else M (o + 2) i) else M b i) := by
      intro M1 v e0 hv
      have o3 : M1 o 3 = M o 3 := by rw [e0, if_neg (by omega)]
      refine (ih fuel (k + 1) M1 (by rw [o3]; omega) (by omega) (by omega) (by rw [o3]; omega) (by rw [o3]; exact h8) (fun j j0 j1 => ?_)).mono (fun M' h b i => ?_)
      · rw [o3] at j1
        rw [e0, if_neg (by omega)]
        exact hm j (by omega) j1
      · rw [h, o3]
        by_cases hi : i = k
        · subst hi
          rw [if_neg (by omega), e0]
          by_cases hb : b = o + 2
          · subst hb
            rw [if_pos ⟨rfl, rfl⟩, if_pos (by omega), hv]
          · rw [if_neg (by omega), if_neg (by omega)]
        · have e2 : ∀ b, M1 b i = M b i := fun b => by rw [e0, if_neg (by omega)]
          rw [e2, e2]
          by_cases hx : b = o + 2 ∧ k ≤ i ∧ i < M o 3
          · rw [if_pos hx, if_pos (by omega)]
          · rw [if_neg hx, if_neg (by omega)]
    rw [f_X4_takeOut_L43]
    refine .ifF (by omega) (.ifT (by omega) (.ifC (fun hc => .ifC (fun hd => .let fun k1 e1 => ?_) (fun hd => .put fun M1 e0 => .let fun k1 e1 => ?_)) (fun hc => .put fun M1 e0 => .let fun k1 e1 => ?_)))
    · have e1 : k1 = k + 1 := e1.trans (w32_of (by omega) (by omega))
      subst e1
      exact step M (M (o + 2) k) (fun b i => by
        by_cases hx : b = o + 2 ∧ i = k
        · rw [if_pos hx, hx.1, hx.2]
        · rw [if_neg hx]) (by rw [if_neg (by omega), if_neg (by omega)])
    · have e1 : k1 = k + 1 := e1.trans (w32_of (by omega) (by omega))
      subst e1
      exact step M1 f e0 (by rw [if_neg (by omega), if_pos (by omega)])
    · have e1 : k1 = k + 1 := e1.trans (w32_of (by omega) (by omega))
      subst e1
      rw [w32_of (i := t - f) (by omega) (by omega), w32_of (by omega) (by omega)] at e0
      exact step M1 _ e0 (by rw [if_pos (by omega)])
theorem takeOut_ok (o : Nat) (f t : Int) (M : Mem) {P : Pg} (hP : PgC M o P) (hW : Wf P) (h0 : 0 ≤ f) (h1 : f ≤ t) (h2 : t ≤ P.len) : Ok (f_X4_takeOut o f t M) (fun M' => PgC M' o (takeP P f t) ∧ Fr3 M M' o) := by
  obtain ⟨q1, q2, q3, q4, q5, q6, q7, q8⟩ := hP
  have l0 := hW.l0
  have l1 := hW.l1
  have m0 := hW.m0
  have m1 := hW.m1
  unfold f_X4_takeOut
  refine .bind (.val (hasRange_ok o f t M)) (fun p hp => ?_)
  rw [if_pos (by omega)] at hp
  rw [w32_of (i := M o 2 - t) (by omega) (by omega), w32_of (i := t - f) (by omega) (by omega)]
  refine .ifF (by omega) (.ifT (by omega) (.cpy fun M1 e1 => .put fun M2 e2 => ?_))
  have a2 : M1 o 2 = P.len := by rw [e1, if_neg (by omega), q1]
  rw [a2, w32_of (by omega) (by omega)] at e2
  have a3 : M2 o 3 = P.mk := by rw [e2, if_neg (by omega), e1, if_neg (by omega), q2]
  have am : ∀ j, M2 (o + 2) j = M (o + 2) j := fun j => by rw [e2, if_neg (by omega), e1, if_neg (by omega)]
  refine (takeOut_L43_ok o f t h0 h1 (by omega) (M2 o 3 - 0).toNat 4096 0 M2 rfl (by omega) (by omega) (by omega) (by omega) (fun j j0 j1 => ?_)).mono (fun M3 e3 => ?_)
  · rw [am, q8 j j0 (by omega)]
    have := hW.mt j j0 (by omega)
    omega
  · refine ⟨⟨?_, ?_, ?_, ?_, ?_, ?_, fun p p0 p1 => ?_, fun k k0 k1 => ?_⟩, fun b b0 b1 b2 i => ?_⟩
    · rw [e3, if_neg (by omega), e2, if_pos (by omega)]; rfl
    · rw [e3, if_neg (by omega), a3]; rfl
    · rw [e3, if_neg (by omega), e2, if_neg (by omega), e1, if_neg (by omega), q3]; rfl
    · rw [e3, if_neg (by omega), e2, if_neg (by omega), e1, if_neg (by omega), q4]; rfl
    · rw [e3, if_neg (by omega), e2, if_neg (by omega), e1, if_neg (by omega), q5]; rfl
    · rw [e3, if_neg (by omega), e2, if_neg (by omega), e1, if_neg (by omega), q6]; rfl
    · have p1 : p < P.len - (t - f) := p1
      show _ = if p < f then P.b p else P.b (p + (t - f))
      rw [e3, if_neg (by omega), e2, if_neg (by omega), e1]
      by_cases h : p < f
      · rw [if_neg (by omega), if_pos h, q7 p p0 (by omega)]
      · rw [if_pos (by omega), if_neg h, show t + (p - f) = p + (t - f) by omega, q7 _ (by omega) (by omega)]
    · have k1 : k < P.mk := k1
      rw [e3, if_pos (by omega), am, q8 k k0 k1]; rfl
    · rw [e3, if_neg (by omega), e2, if_neg (by omega), e1, if_neg (by omega)]
/-- a byte set -/
theorem setByte_pg (o : Nat) (v c : Int) (M : Mem) {P : Pg} (hP : PgC M o P) (hW : Wf P) (h0 : 0 ≤ v) (h1 : v < P.len) : Ok (f_X4_setByte o v c M) (fun M' => PgC M' o (setB P v c) ∧ Fr3 M M' o) := by
  obtain ⟨q1, q2, q3, q4, q5, q6, q7, q8⟩ := hP
  have l1 := hW.l1
  refine (setByte_ok o v c M h0 (by omega) (by omega)).mono (fun M' e => ⟨⟨?_, ?_, ?_, ?_, ?_, ?_, fun p p0 p1 => ?_, fun k k0 k1 => ?_⟩, fun b b0 b1 b2 i => ?_⟩)
  · rw [e, if_neg (by omega)]; exact q1
  · rw [e, if_neg (by omega)]; exact q2
  · rw [e, if_neg (by omega)]; exact q3
  · rw [e, if_neg (by omega)]; exact q4
  · rw [e, if_neg (by omega)]; exact q5
  · rw [e, if_neg (by omega)]; exact q6
  · show _ = if p = v then c else P.b p
    rw [e]
    by_cases h : p = v
    · rw [if_pos ⟨rfl, h⟩, if_pos h]
    · rw [if_neg (by omega), if_neg h]; exact q7 p p0 p1
  · rw [e, if_neg (by omega)]; exact q8 k k0 k1
  · rw [e, if_neg (by omega)]
def addM (P : Pg) (v : Int) : Pg := (P.len, P.mk + 1, P.col, P.drop, P.give, P.chg, P.b, fun k => if k = P.mk then v else P.m k)
def remM (P : Pg) (v : Int) : Pg := (P.len, P.mk - 1, P.col, P.drop, P.give, P.chg, P.b, fun k => if k < v then P.m k else P.m (k + 1))
theorem addM_wf {P : Pg} (h : Wf P) {v : Int} (h0 : 0 ≤ v) (h1 : v ≤ P.len) (h2 : P.mk < 8) : Wf (addM P v) := by
  have m0 := h.m0
  refine ⟨⟨h.l0, h.l1, (by show 0 ≤ P.mk + 1; omega), (by show P.mk + 1 ≤ 8; omega)⟩, h.2.1, h.bt, fun k k0 k1 => ?_⟩
  have k1 : k < P.mk + 1 := k1
  show 0 ≤ (if k = P.mk then v else P.m k) ∧ (if k = P.mk then v else P.m k) ≤ P.len
  split
  · exact ⟨h0, h1⟩
  · exact h.mt k k0 (by omega)
theorem remM_wf {P : Pg} (h : Wf P) {v : Int} (h0 : 0 ≤ v) (h1 : v < P.mk) : Wf (remM P v) := by
  have m0 := h.m0
  have m1 := h.m1
  refine ⟨⟨h.l0, h.l1, (by show 0 ≤ P.mk - 1; omega), (by show P.mk - 1 ≤ 8; omega)⟩, h.2.1, h.bt, fun k k0 k1 => ?_⟩
  have k1 : k < P.mk - 1 := k1
  show 0 ≤ (if k < v then P.m k else P.m (k + 1)) ∧ (if k < v then P.m k else P.m (k + 1)) ≤ P.len
  split
  · exact h.mt k k0 (by omega)
  · exact h.mt _ (by omega) (by omega)
theorem addMark_ok (o : Nat) (v : Int) (M : Mem) {P : Pg} (hP : PgC M o P) (hW : Wf P) (h2 : P.mk < 8) : Ok (f_X4_addMark o v M) (fun M' => PgC M' o (addM P v) ∧ Fr3 M M' o) := by
  obtain ⟨q1, q2, q3, q4, q5, q6, q7, q8⟩ := hP
  have m0 := hW.m0
  unfold f_X4_addMark
  refine .ifF (by omega) (.ifT (by omega) (.put fun M1 e1 => .put fun M2 e2 => .ret ?_))
  have a3 : M1 o 3 = P.mk := by rw [e1, if_neg (by omega), q2]
  rw [a3, w32_of (by omega) (by omega)] at e2
  refine ⟨⟨?_, ?_, ?_, ?_, ?_, ?_, fun p p0 p1 => ?_, fun k k0 k1 => ?_⟩, fun b b0 b1 b2 i => ?_⟩
  · rw [e2, if_neg (by omega), e1, if_neg (by omega)]; exact q1
  · rw [e2, if_pos (by omega)]; rfl
  · rw [e2, if_neg (by omega), e1, if_neg (by omega)]; exact q3
  · rw [e2, if_neg (by omega), e1, if_neg (by omega)]; exact q4
  · rw [e2, if_neg (by omega), e1, if_neg (by omega)]; exact q5
  · rw [e2, if_neg (by omega), e1, if_neg (by omega)]; exact q6
  · rw [e2, if_neg (by omega), e1, if_neg (by omega)]; exact q7 p p0 p1
  · have k1 : k < P.mk + 1 := k1
    show _ = if k = P.mk then v else P.m k
    rw [e2, if_neg (by omega), e1]
    by_cases h : k = P.mk
    · rw [if_pos (by omega), if_pos h]
    · rw [if_neg (by omega), if_neg h]; exact q8 k k0 (by omega)
  · rw [e2, if_neg (by omega), e1, if_neg (by omega)]
theorem removeMark_ok (o : Nat) (v : Int) (M : Mem) {P : Pg} (hP : PgC M o P) (hW : Wf P) (h0 : 0 ≤ v) (h2 : v < P.mk) : Ok (f_X4_removeMark o v M) (fun M' => PgC M' o (remM P v) ∧ Fr3 M M' o) := by
  obtain ⟨q1, q2, q3, q4, q5, q6, q7, q8⟩ := hP
  have m0 := hW.m0
  have m1 := hW.m1
  unfold f_X4_removeMark
  rw [w32_of (i := v + 1) (by omega) (by omega), w32_of (i := M o 3 - v) (by omega) (by omega), w32_of (i := M o 3 - v - 1) (by omega) (by omega)]
  refine .ifF (by omega) (.ifT (by omega) (.ifT (by omega) (.cpy fun M1 e1 => .put fun M2 e2 => .ret ?_)))
  have a3 : M1 o 3 = P.mk := by rw [e1, if_neg (by omega), q2]
  rw [a3, w32_of (by omega) (by omega)] at e2
  refine ⟨⟨?_, ?_, ?_, ?_, ?_, ?_, fun p p0 p1 => ?_, fun k k0 k1 => ?_⟩, fun b b0 b1 b2 i => ?_⟩
  · rw [e2, if_neg (by omega), e1, if_neg (by omega)]; exact q1
  · rw [e2, if_pos (by omega)]; rfl
  · rw [e2, if_neg (by omega), e1, if_neg (by omega)]; exact q3
  · rw [e2, if_neg (by omega), e1, if_neg (by omega)]; exact q4
  · rw [e2, if_neg (by omega), e1, if_neg (by omega)]; exact q5
  · rw [e2, if_neg (by omega), e1, if_neg (by omega)]; exact q6
  · rw [e2, if_neg (by omega), e1, if_neg (by omega)]; exact q7 p p0 p1
  · have k1 : k < P.mk - 1 := k1
    show _ = if k < v then P.m k else P.m (k + 1)
    rw [e2, if_neg (by omega), e1]
    by_cases h : k < v
    · rw [if_neg (by omega), if_pos h]; exact q8 k k0 (by omega)
    · rw [if_pos (by omega), if_neg h, show v + 1 + (k - v) = k + 1 by omega]; exact q8 _ (by omega) (by omega)
  · rw [e2, if_neg (by omega), e1, if_neg (by omega)]
