/-! ===== THE MATHEMATICS. Pages: a text with marks and prices; the class's page objects and the model's rows ===== -/
abbrev Pg : Type := Int × Int × Int × Int × Int × Int × (Int → Int) × (Int → Int)
def Pg.len (P : Pg) : Int := P.1
def Pg.mk (P : Pg) : Int := P.2.1
def Pg.col (P : Pg) : Int := P.2.2.1
def Pg.drop (P : Pg) : Int := P.2.2.2.1
def Pg.give (P : Pg) : Int := P.2.2.2.2.1
def Pg.chg (P : Pg) : Int := P.2.2.2.2.2.1
def Pg.b (P : Pg) : Int → Int := P.2.2.2.2.2.2.1
def Pg.m (P : Pg) : Int → Int := P.2.2.2.2.2.2.2
/-- the class's page o holds P -/
def PgC (M : Mem) (o : Nat) (P : Pg) : Prop := M o 2 = P.len ∧ M o 3 = P.mk ∧ M o 4 = P.col ∧ M o 5 = P.drop ∧ M o 6 = P.give ∧ M o 7 = P.chg ∧ (∀ p, 0 ≤ p → p < P.len → M (o + 1) p = P.b p) ∧ ∀ k, 0 ≤ k → k < P.mk → M (o + 2) k = P.m k
/-- the model's row in array a from place r on holds P -/
def PgM (M : Mem) (a : Nat) (r : Int) (P : Pg) : Prop := M a r = P.len ∧ M a (r + 1) = P.mk ∧ M a (r + 10) = P.col ∧ M a (r + 11) = P.drop ∧ M a (r + 12) = P.give ∧ M a (r + 13) = P.chg ∧ (∀ p, 0 ≤ p → p < P.len → M a (r + 14 + p) = P.b p) ∧ ∀ k, 0 ≤ k → k < P.mk → M a (r + 2 + k) = P.m k
def isTxt (c : Int) : Prop := c = 10 ∨ (32 ≤ c ∧ c ≤ 126)
def Wf (P : Pg) : Prop := (0 ≤ P.len ∧ P.len ≤ 240 ∧ 0 ≤ P.mk ∧ P.mk ≤ 8) ∧ (1 ≤ P.col ∧ P.col ≤ 9 ∧ 1 ≤ P.drop ∧ P.drop ≤ 99 ∧ 1 ≤ P.give ∧ P.give ≤ 99 ∧ 1 ≤ P.chg ∧ P.chg ≤ 99) ∧ (∀ p, 0 ≤ p → p < P.len → isTxt (P.b p)) ∧ ∀ k, 0 ≤ k → k < P.mk → 0 ≤ P.m k ∧ P.m k ≤ P.len
theorem Wf.l0 {P : Pg} (h : Wf P) : 0 ≤ P.len := h.1.1
theorem Wf.l1 {P : Pg} (h : Wf P) : P.len ≤ 240 := h.1.2.1
theorem Wf.m0 {P : Pg} (h : Wf P) : 0 ≤ P.mk := h.1.2.2.1
theorem Wf.m1 {P : Pg} (h : Wf P) : P.mk ≤ 8 := h.1.2.2.2
theorem Wf.bt {P : Pg} (h : Wf P) : ∀ p, 0 ≤ p → p < P.len → isTxt (P.b p) := h.2.2.1
theorem Wf.mt {P : Pg} (h : Wf P) : ∀ k, 0 ≤ k → k < P.mk → 0 ≤ P.m k ∧ P.m k ≤ P.len := h.2.2.2
/-- n bytes put in at place a -/
def putN (P : Pg) (a n : Int) (s : Int → Int) : Pg := (P.len + n, P.mk, P.col, P.drop, P.give, P.chg, fun p => if p < a then P.b p else if p < a + n then s (p - a) else P.b (p - n), fun k => if a ≤ P.m k then P.m k + n else P.m k)
/-- the bytes from f up to t taken out -/
def takeP (P : Pg) (f t : Int) : Pg := (P.len - (t - f), P.mk, P.col, P.drop, P.give, P.chg, fun p => if p < f then P.b p else P.b (p + (t - f)), fun k => if t < P.m k then P.m k - (t - f) else if f < P.m k then f else P.m k)
def setB (P : Pg) (a c : Int) : Pg := (P.len, P.mk, P.col, P.drop, P.give, P.chg, fun p => if p = a then c else P.b p, P.m)
theorem putN_wf {P : Pg} (h : Wf P) {a n : Int} {s : Int → Int} (h0 : 0 ≤ a) (h1 : a ≤ P.len) (hn : 0 ≤ n) (hl : P.len + n ≤ 240) (hs : ∀ p, 0 ≤ p → p < n → isTxt (s p)) : Wf (putN P a n s) := by
  have l0 := h.l0
  refine ⟨⟨(by show 0 ≤ P.len + n; omega), hl, h.m0, h.m1⟩, h.2.1, fun p p0 p1 => ?_, fun k k0 k1 => ?_⟩
  · have p1 : p < P.len + n := p1
    show isTxt (if p < a then P.b p else if p < a + n then s (p - a) else P.b (p - n))
    split
    · exact h.bt p p0 (by omega)
    · split
      · exact hs _ (by omega) (by omega)
      · exact h.bt _ (by omega) (by omega)
  · have := h.mt k k0 k1
    show 0 ≤ (if a ≤ P.m k then P.m k + n else P.m k) ∧ (if a ≤ P.m k then P.m k + n else P.m k) ≤ P.len + n
    split <;> omega
theorem takeP_wf {P : Pg} (h : Wf P) {f t : Int} (h0 : 0 ≤ f) (h1 : f ≤ t) (h2 : t ≤ P.len) : Wf (takeP P f t) := by
  have l1 := h.l1
  refine ⟨⟨(by show 0 ≤ P.len - (t - f); omega), (by show P.len - (t - f) ≤ 240; omega), h.m0, h.m1⟩, h.2.1, fun p p0 p1 => ?_, fun k k0 k1 => ?_⟩
  · have p1 : p < P.len - (t - f) := p1
    show isTxt (if p < f then P.b p else P.b (p + (t - f)))
    split
    · exact h.bt p p0 (by omega)
    · exact h.bt _ (by omega) (by omega)
  · have := h.mt k k0 k1
    show 0 ≤ (if t < P.m k then P.m k - (t - f) else if f < P.m k then f else P.m k) ∧ (if t < P.m k then P.m k - (t - f) else if f < P.m k then f else P.m k) ≤ P.len - (t - f)
    split
    · omega
    · split <;> omega
theorem setB_wf {P : Pg} (h : Wf P) {a c : Int} (hc : isTxt c) : Wf (setB P a c) := by
  refine ⟨h.1, h.2.1, fun p p0 p1 => ?_, h.mt⟩
  show isTxt (if p = a then c else P.b p)
  split
  · exact hc
  · exact h.bt p p0 p1
/-- other objects stay as they were -/
def Fr3 (M M' : Mem) (o : Nat) : Prop := ∀ b, b ≠ o → b ≠ o + 1 → b ≠ o + 2 → ∀ i, M' b i = M b i
theorem Fr3.trans {M M1 M2 : Mem} {o : Nat} (h1 : Fr3 M M1 o) (h2 : Fr3 M1 M2 o) : Fr3 M M2 o := fun b b0 b1 b2 i => (h2 b b0 b1 b2 i).trans (h1 b b0 b1 b2 i)
theorem Fr3.rf {M : Mem} {o : Nat} : Fr3 M M o := fun _ _ _ _ _ => rfl
theorem setPrices_ok (o : Nat) (d g c : Int) (M : Mem) : Ok (f_X4_setPrices o d g c M) (fun M' => ∀ b i, M' b i = if b = o ∧ i = 7 then c else if b = o ∧ i = 6 then g else if b = o ∧ i = 5 then d else M b i) := by
  unfold f_X4_setPrices
  refine .put fun M1 e1 => .put fun M2 e2 => .put fun M3 e3 => .ret fun b i => ?_
  rw [e3, e2, e1]
theorem copyFrom_ok {o1 o : Nat} (h1 : o1 ≠ o + 1) (h2 : o1 ≠ o + 2) (h4 : o1 + 2 ≠ o + 1) (h5 : o1 ≠ o) (M : Mem) {P : Pg} (hP : PgC M o1 P) (hW : Wf P) : Ok (f_X4_copyFrom o o1 M) (fun M' => PgC M' o P ∧ Fr3 M M' o) := by
  unfold f_X4_copyFrom
  refine .ifT (by decide) (.cpy fun M1 e1 => .ifT (by decide) (.cpy fun M2 e2 => .put fun M3 e3 => .put fun M4 e4 => .put fun M5 e5 => .bind (setPrices_ok _ _ _ _ _) (fun M8 e8 => ?_)))
  · refine .ret ⟨?_, fun b b0 b1 b2 i => ?_⟩
    · obtain ⟨q1, q2, q3, q4, q5, q6, q7, q8⟩ := hP
      have l1 := hW.l1
      have m1 := hW.m1
      refine ⟨?_, ?_, ?_, ?_, ?_, ?_, fun p p0 p1 => ?_, fun k k0 k1 => ?_⟩
      · simp [e8, e5, e4, e3, e2, e1, h1, h2, h5, q1]
      · simp [e8, e5, e4, e3, e2, e1, h1, h2, h5, q2]
      · simp [e8, e5, e4, e3, e2, e1, h1, h2, h5, q3]
      · simp [e8, e5, e4, e3, e2, e1, h1, h2, h5, q4]
      · simp [e8, e5, e4, e3, e2, e1, h1, h2, h5, q5]
      · simp [e8, e5, e4, e3, e2, e1, h1, h2, h5, q6]
      · have hp : p < 240 := by omega
        simp [e8, e5, e4, e3, e2, e1, p0, hp, q7 p p0 p1]
      · have hk : k < 8 := by omega
        simp [e8, e5, e4, e3, e2, e1, k0, hk, h4, q8 k k0 k1]
    · simp [e8, e5, e4, e3, e2, e1, b0, b1, b2]
theorem makeRoom_L54_ok (o : Nat) (a n : Int) (hn : 0 ≤ n) (hn2 : n ≤ 240) : ∀ (r fuel : Nat) (k : Int) (M : Mem), (M o 3 - k).toNat = r → r < fuel → 0 ≤ k → k ≤ M o 3 → M o 3 ≤ 8 → (∀ j, k ≤ j → j < M o 3 → 0 ≤ M (o + 2) j ∧ M (o + 2) j ≤ 240) →
    Ok (f_X4_makeRoom_L54 fuel o a n k M) (fun M' => ∀ b i, M' b i = if b = o + 2 ∧ k ≤ i ∧ i < M o 3 ∧ a ≤ M (o + 2) i then M (o + 2) i + n else M b i) := by
  intro r
  induction r with
  | zero =>
    intro fuel k M hr hf hk hk3 h8 hm
    obtain ⟨fuel, rfl⟩ : ∃ f, fuel = f + 1 := ⟨fuel - 1, by omega⟩
    rw [f_X4_makeRoom_L54]
    refine .ifT (by omega) (.ret fun b i => ?_)
    rw [if_neg (by omega)]
  | succ r ih =>
    intro fuel k M hr hf hk hk3 h8 hm
    obtain ⟨fuel, rfl⟩ : ∃ f, fuel = f + 1 := ⟨fuel - 1, by omega⟩
    have hmk := hm k (Int.le_refl _) (by omega)
    rw [f_X4_makeRoom_L54]
    refine .ifF (by omega) (.ifT (by omega) (.ifC (fun hc => .let fun k1 e1 => ?_) (fun hc => .put fun M1 e0 => .let fun k1 e1 => ?_)))
    · have e1 : k1 = k + 1 := e1.trans (w32_of (by omega) (by omega))
      subst e1
      refine (ih fuel (k + 1) M (by omega) (by omega) (by omega) (by omega) h8 (fun j j0 j1 => hm j (by omega) j1)).mono (fun M' h b i => ?_)
      rw [h]
      by_cases hi : i = k
      · subst hi
        by_cases hb : b = o + 2
        · subst hb
          rw [if_neg (by omega), if_neg (by omega)]
        · rw [if_neg (by omega), if_neg (by omega)]
      · by_cases hx : b = o + 2 ∧ k ≤ i ∧ i < M o 3 ∧ a ≤ M (o + 2) i
        · rw [if_pos hx, if_pos (by omega)]
        · rw [if_neg hx, if_neg (by omega)]
    · have e1 : k1 = k + 1 := e1.trans (w32_of (by omega) (by omega))
      subst e1
      rw [w32_of (by omega) (by omega)] at e0
      have o3 : M1 o 3 = M o 3 := by rw [e0, if_neg (by omega)]
      refine (ih fuel (k + 1) M1 (by rw [o3]; omega) (by omega) (by omega) (by rw [o3]; omega) (by rw [o3]; exact h8) (fun j j0 j1 => ?_)).mono (fun M' h b i => ?_)
      · rw [o3] at j1
        rw [e0, if_neg (by omega)]
        exact hm j (by omega) j1
      · rw [h, o3]
        by_cases hi : i = k
        · subst hi
          rw [if_neg (by omega), e0]
          by_cases hb : b = o + 2
          · subst hb
            rw [if_pos ⟨rfl, rfl⟩, if_pos (by omega)]
          · rw [if_neg (by omega), if_neg (by omega)]
        · have e2 : ∀ b, M1 b i = M b i := fun b => by rw [e0, if_neg (by omega)]
          rw [e2, e2]
          by_cases hx : b = o + 2 ∧ k ≤ i ∧ i < M o 3 ∧ a ≤ M (o + 2) i
          · rw [if_pos hx, if_pos (by omega)]
          · rw [if_neg hx, if_neg (by omega)]
theorem hasPlace_ok (o : Nat) (v : Int) (M : Mem) : f_X4_hasPlace o v M = some (if 0 ≤ v ∧ v ≤ M o 2 then 1 else 0) := by
  unfold f_X4_hasPlace
  by_cases h : v < 0
  · rw [if_pos h, if_neg (by omega)]
  · rw [if_neg h]
    by_cases h2 : M o 2 < v
    · rw [if_pos h2, if_neg (by omega)]
    · rw [if_neg h2, if_pos (by omega)]
theorem hasByte_ok (o : Nat) (v : Int) (M : Mem) : f_X4_hasByte o v M = some (if 0 ≤ v ∧ v < M o 2 then 1 else 0) := by
  unfold f_X4_hasByte
  by_cases h : v < 0
  · rw [if_pos h, if_neg (by omega)]
  · rw [if_neg h]
    by_cases h2 : M o 2 ≤ v
    · rw [if_pos h2, if_neg (by omega)]
    · rw [if_neg h2, if_pos (by omega)]
theorem hasRange_ok (o : Nat) (f t : Int) (M : Mem) : f_X4_hasRange o f t M = some (if 0 ≤ f ∧ f ≤ t ∧ t ≤ M o 2 then 1 else 0) := by
  unfold f_X4_hasRange
  by_cases h : f < 0
  · rw [if_pos h, if_neg (by omega)]
  · rw [if_neg h]
    by_cases h2 : t < f
    · rw [if_pos h2, if_neg (by omega)]
    · rw [if_neg h2]
      by_cases h3 : M o 2 < t
      · rw [if_pos h3, if_neg (by omega)]
      · rw [if_neg h3, if_pos (by omega)]
theorem hasRoom_ok (o : Nat) (v : Int) (M : Mem) (h0 : 0 ≤ M o 2) (h1 : M o 2 ≤ 240) : f_X4_hasRoom o v M = some (if v ≤ 240 - M o 2 then 1 else 0) := by
  unfold f_X4_hasRoom
  rw [w32_of (by omega) (by omega)]
  by_cases h : 240 - M o 2 < v
  · rw [if_pos h, if_neg (by omega)]
  · rw [if_neg h, if_pos (by omega)]
theorem pbyteAt_ok (o : Nat) (v : Int) (M : Mem) (h1 : M o 2 ≤ 240) : f_X4_byteAt o v M = some (if 0 ≤ v ∧ v < M o 2 then M (o + 1) v else -1) := by
  unfold f_X4_byteAt
  rw [hasByte_ok]
  show (if (if 0 ≤ v ∧ v < M o 2 then (1 : Int) else 0) = 0 then some (-1) else _) = _
  by_cases h : 0 ≤ v ∧ v < M o 2
  · rw [if_pos h, if_neg (by decide), if_pos (by omega), if_pos h]
  · rw [if_neg h, if_pos rfl, if_neg h]
theorem setByte_ok (o : Nat) (v c : Int) (M : Mem) (h0 : 0 ≤ v) (h1 : v < M o 2) (h2 : M o 2 ≤ 240) : Ok (f_X4_setByte o v c M) (fun M' => ∀ b i, M' b i = if b = o + 1 ∧ i = v then c else M b i) := by
  unfold f_X4_setByte
  refine .bind (.val (hasByte_ok o v M)) (fun p hp => ?_)
  rw [if_pos ⟨h0, h1⟩] at hp
  refine .ifF (by omega) (.ifT (by omega) (.put fun M1 e1 => .ret e1))
/-- room made: the bytes at the place itself are left open -/
theorem makeRoom_ok (o : Nat) (a n : Int) (M : Mem) {P : Pg} (hP : PgC M o P) (hW : Wf P) (h0 : 0 ≤ a) (h1 : a ≤ P.len) (hn : 0 ≤ n) (hl : P.len + n ≤ 240) :
    Ok (f_X4_makeRoom o a n M) (fun M' => M' o 2 = P.len + n ∧ M' o 3 = P.mk ∧ M' o 4 = P.col ∧ M' o 5 = P.drop ∧ M' o 6 = P.give ∧ M' o 7 = P.chg ∧ (∀ p, 0 ≤ p → p < a → M' (o + 1) p = P.b p) ∧ (∀ p, a + n ≤ p → p < P.len + n → M' (o + 1) p = P.b (p - n)) ∧ (∀ k, 0 ≤ k → k < P.mk → M' (o + 2) k = (putN P a n (fun _ => 0)).m k) ∧ Fr3 M M' o) := by
  obtain ⟨q1, q2, q3, q4, q5, q6, q7, q8⟩ := hP
  have l0 := hW.l0
  have l1 := hW.l1
  have m0 := hW.m0
  have m1 := hW.m1
  unfold f_X4_makeRoom
  refine .bind (.val (hasPlace_ok o a M)) (fun p hp => ?_)
  rw [if_pos (by omega)] at hp
  refine .ifF (by omega) (.ifF (by omega) (.bind (.val (hasRoom_ok o n M (by omega) (by omega))) (fun p hp => ?_)))
  rw [if_pos (by omega)] at hp
  rw [w32_of (i := a + n) (by omega) (by omega), w32_of (i := M o 2 - a) (by omega) (by omega)]
  refine .ifF (by omega) (.ifT (by omega) (.cpy fun M1 e1 => .put fun M2 e2 => ?_))
  have a2 : M1 o 2 = P.len := by rw [e1, if_neg (by omega), q1]
  rw [a2, w32_of (by omega) (by omega)] at e2
  have a3 : M2 o 3 = P.mk := by rw [e2, if_neg (by omega), e1, if_neg (by omega), q2]
  have am : ∀ j, M2 (o + 2) j = M (o + 2) j := fun j => by rw [e2, if_neg (by omega), e1, if_neg (by omega)]
  refine (makeRoom_L54_ok o a n hn (by omega) (M2 o 3 - 0).toNat 4096 0 M2 rfl (by omega) (by omega) (by omega) (by omega) (fun j j0 j1 => ?_)).mono (fun M3 e3 => ?_)
  · rw [am, q8 j j0 (by omega)]
    have := hW.mt j j0 (by omega)
    omega
  · refine ⟨?_, ?_, ?_, ?_, ?_, ?_, fun p p0 p1 => ?_, fun p p0 p1 => ?_, fun k k0 k1 => ?_, fun b b0 b1 b2 i => ?_⟩
    · rw [e3, if_neg (by omega), e2, if_pos (by omega)]
    · rw [e3, if_neg (by omega), a3]
    · rw [e3, if_neg (by omega), e2, if_neg (by omega), e1, if_neg (by omega), q3]
    · rw [e3, if_neg (by omega), e2, if_neg (by omega), e1, if_neg (by omega), q4]
    · rw [e3, if_neg (by omega), e2, if_neg (by omega), e1, if_neg (by omega), q5]
    · rw [e3, if_neg (by omega), e2, if_neg (by omega), e1, if_neg (by omega), q6]
    · rw [e3, if_neg (by omega), e2, if_neg (by omega), e1, if_neg (by omega), q7 p p0 (by omega)]
    · rw [e3, if_neg (by omega), e2, if_neg (by omega), e1, if_pos (by omega), show a + (p - (a + n)) = p - n by omega, q7 _ (by omega) (by omega)]
    · rw [e3, am, q8 k k0 k1, a3]
      show _ = if a ≤ P.m k then P.m k + n else P.m k
      by_cases h : a ≤ P.m k
      · rw [if_pos (by omega), if_pos h]
      · rw [if_neg (by omega), if_neg h]
    · rw [e3, if_neg (by omega), e2, if_neg (by omega), e1, if_neg (by omega)]
theorem putByte_ok (o : Nat) (a c : Int) (M : Mem) {P : Pg} (hP : PgC M o P) (hW : Wf P) (h0 : 0 ≤ a) (h1 : a ≤ P.len) (hl : P.len + 1 ≤ 240) : Ok (f_X4_putByte o a c M) (fun M' => PgC M' o (putN P a 1 (fun _ => c)) ∧ Fr3 M M' o) := by
  have l0 := hW.l0
  unfold f_X4_putByte
  refine .bind (makeRoom_ok o a 1 M hP hW h0 h1 (by omega) hl) (fun M1 h => ?_)
  obtain ⟨q1, q2, q3, q4, q5, q6, q7, q8, q9, fr⟩ := h
  refine .bind (setByte_ok o a c M1 h0 (by omega) (by omega)) (fun M2 e => .ret ⟨⟨?_, ?_, ?_, ?_, ?_, ?_, fun p p0 p1 => ?_, fun k k0 k1 => ?_⟩, fun b b0 b1 b2 i => ?_⟩)
  · rw [e, if_neg (by omega)]; exact q1
  · rw [e, if_neg (by omega)]; exact q2
  · rw [e, if_neg (by omega)]; exact q3
  · rw [e, if_neg (by omega)]; exact q4
  · rw [e, if_neg (by omega)]; exact q5
  · rw [e, if_neg (by omega)]; exact q6
  · have p1 : p < P.len + 1 := p1
    show M2 (o + 1) p = if p < a then P.b p else if p < a + 1 then c else P.b (p - 1)
    rw [e]
    by_cases h : p < a
    · rw [if_neg (by omega), if_pos h, q7 p p0 h]
    · rw [if_neg h]
      by_cases h2 : p < a + 1
      · rw [if_pos (by omega), if_pos h2]
      · rw [if_neg (by omega), if_neg h2, q8 p (by omega) (by omega)]
  · rw [e, if_neg (by omega)]; exact q9 k k0 k1
  · rw [e, if_neg (by omega)]; exact fr b b0 b1 b2 i
