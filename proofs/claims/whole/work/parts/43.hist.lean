/-! ===== the undo history: a ring of pages, and rows that move down ===== -/
def cn (b : Bool) : Int := if b then 1 else 0
/-- where the k-th of n kept pages lies in the ring -/
def rix (nx n k : Int) : Int := if nx - n + k < 0 then nx - n + k + 10 else nx - n + k
def HistC (M : Mem) (n : Int) (Hs : Int → Pg) : Prop := M 20 2 = n ∧ 0 ≤ M 20 1 ∧ M 20 1 < 10 ∧ ∀ k, 0 ≤ k → k < n → PgC M (22 + 3 * (rix (M 20 1) n k).toNat) (Hs k)
def HistM (M : Mem) (n : Int) (Hs : Int → Pg) : Prop := M 84 46 = n ∧ ∀ k, 0 ≤ k → k < n → PgM M 110 (254 * k) (Hs k)
def HistW (n : Int) (Hs : Int → Pg) : Prop := 0 ≤ n ∧ n ≤ 10 ∧ ∀ k, 0 ≤ k → k < n → Wf (Hs k)
def pushN (n : Int) : Int := if n = 10 then 10 else n + 1
def pushH (n : Int) (Hs : Int → Pg) (P : Pg) : Int → Pg := if n = 10 then (fun k => if k = 9 then P else Hs (k + 1)) else (fun k => if k = n then P else Hs k)
theorem pushW {n : Int} {Hs : Int → Pg} {P : Pg} (h : HistW n Hs) (hP : Wf P) : HistW (pushN n) (pushH n Hs P) := by
  obtain ⟨h0, h1, h2⟩ := h
  unfold pushN pushH
  by_cases h10 : n = 10
  · rw [if_pos h10, if_pos h10]
    refine ⟨by omega, by omega, fun k k0 k1 => ?_⟩
    show Wf (if k = 9 then P else Hs (k + 1))
    split
    · exact hP
    · exact h2 _ (by omega) (by omega)
  · rw [if_neg h10, if_neg h10]
    refine ⟨by omega, by omega, fun k k0 k1 => ?_⟩
    show Wf (if k = n then P else Hs k)
    split
    · exact hP
    · exact h2 _ k0 (by omega)
theorem keep_ok (o1 : Nat) (h14 : o1 = 14 ∨ o1 = 17) (M : Mem) {P : Pg} (hP : PgC M o1 P) (hW : Wf P) {n : Int} {Hs : Int → Pg} (hH : HistC M n Hs) (hHW : HistW n Hs) :
    Ok (f_X0_keep o1 M) (fun M' => HistC M' (pushN n) (pushH n Hs P) ∧ ∀ b, (b < 20 ∨ 52 ≤ b) → ∀ i, M' b i = M b i) := by
  obtain ⟨q1, q2, q3, q4⟩ := hH
  obtain ⟨w1, w2, w3⟩ := hHW
  unfold f_X0_keep
  have key : ∀ (M1 M2 : Mem) (q : Nat) (x : Int), q = 22 + 3 * (M 20 1).toNat → PgC M1 q P → Fr3 M M1 q → x = (if M 20 1 = 9 then 0 else M 20 1 + 1) → (∀ b i, M2 b i = if b = 20 ∧ i = 1 then x else M1 b i) →
      Ok (lt1 (if 10 < (w32 ((M2 20 2) + 1)) then 10 else w32 ((M2 20 2) + 1)) fun x53 => lt1 (up M2 20 2 x53) fun M56 => some M56) (fun M' => HistC M' (pushN n) (pushH n Hs P) ∧ ∀ b, (b < 20 ∨ 52 ≤ b) → ∀ i, M' b i = M b i) := by
    intro M1 M2 q x hq hc fr hx e2
    have f20 : ∀ i, M1 20 i = M 20 i := fun i => fr 20 (by omega) (by omega) (by omega) i
    have a2 : M2 20 2 = n := by rw [e2, if_neg (by omega), f20, q1]
    rw [a2, w32_of (by omega) (by omega)]
    refine .let fun y ey => .put fun M3 e3 => .ret ⟨⟨?_, ?_, ?_, fun k k0 k1 => ?_⟩, fun b hb i => ?_⟩
    · rw [e3, if_pos (by omega), ey]
      unfold pushN
      by_cases h : n = 10
      · rw [if_pos (by omega), if_pos h]
      · rw [if_neg (by omega), if_neg h]
    · rw [e3, if_neg (by omega), e2, if_pos (by omega), hx]
      split <;> omega
    · rw [e3, if_neg (by omega), e2, if_pos (by omega), hx]
      split <;> omega
    · have hnx : M3 20 1 = x := by rw [e3, if_neg (by omega), e2, if_pos (by omega)]
      have oth : ∀ b, b ≠ 20 → ∀ i, M3 b i = M1 b i := fun b hb i => by rw [e3, if_neg (by omega), e2, if_neg (by omega)]
      rw [hnx]
      have new : ∀ z : Nat, z = q → PgC M3 z P := fun z hz => by
        subst hz
        exact hc.same (fun i => oth _ (by omega) i) (fun i => oth _ (by omega) i) (fun i => oth _ (by omega) i)
      have old : ∀ (z : Nat) (Q : Pg), PgC M z Q → 22 ≤ z → z + 3 ≤ q ∨ q + 3 ≤ z → PgC M3 z Q := fun z Q hz z0 z1 =>
        hz.same (fun i => (oth _ (by omega) i).trans (fr _ (by omega) (by omega) (by omega) i)) (fun i => (oth _ (by omega) i).trans (fr _ (by omega) (by omega) (by omega) i)) (fun i => (oth _ (by omega) i).trans (fr _ (by omega) (by omega) (by omega) i))
      unfold pushN at k1 ⊢
      unfold pushH
      by_cases h : n = 10
      · rw [if_pos h] at k1 ⊢
        rw [if_pos h]
        show PgC M3 _ (if k = 9 then P else Hs (k + 1))
        by_cases hk : k = 9
        · rw [if_pos hk]
          refine new _ ?_
          unfold rix
          split at hx <;> split <;> omega
        · rw [if_neg hk]
          have h9 := q4 (k + 1) (by omega) (by omega)
          have e : rix x 10 k = rix (M 20 1) n (k + 1) := by
            unfold rix
            split at hx <;> split <;> split <;> omega
          rw [e]
          refine old _ _ h9 (by omega) ?_
          unfold rix
          split <;> omega
      · rw [if_neg h] at k1 ⊢
        rw [if_neg h]
        show PgC M3 _ (if k = n then P else Hs k)
        by_cases hk : k = n
        · rw [if_pos hk]
          refine new _ ?_
          unfold rix
          split at hx <;> split <;> omega
        · rw [if_neg hk]
          have h9 := q4 k (by omega) (by omega)
          have e : rix x (n + 1) k = rix (M 20 1) n k := by
            unfold rix
            split at hx <;> split <;> split <;> omega
          rw [e]
          refine old _ _ h9 (by omega) ?_
          unfold rix
          split <;> omega
    · rw [e3, if_neg (by omega), e2, if_neg (by omega)]
      exact fr b (by omega) (by omega) (by omega) i
  refine .ifT ⟨q2, q3⟩ (.let fun q eq => ?_)
  have eq2 : q = 22 + 3 * (M 20 1).toNat := by rw [eq]; rfl
  refine .bind (copyFrom_ok (o := q) (o1 := o1) (by omega) (by omega) (by omega) (by omega) M hP hW) (fun M1 h1 => ?_)
  obtain ⟨hc, fr⟩ := h1
  have f20 : M1 20 1 = M 20 1 := fr 20 (by omega) (by omega) (by omega) 1
  rw [f20, w32_of (by omega) (by omega)]
  refine .ifC (fun h => .put fun M2 e2 => ?_) (fun h => .put fun M2 e2 => ?_)
  · exact key M1 M2 q 0 eq2 hc fr (by rw [if_pos (by omega)]) e2
  · exact key M1 M2 q (M 20 1 + 1) eq2 hc fr (by rw [if_neg (by omega)]) e2
theorem takeBack_ok (M : Mem) {n : Int} {Hs : Int → Pg} (hH : HistC M n Hs) (hHW : HistW n Hs) (hn : n ≠ 0) :
    Ok (f_X0_takeBack 14 M) (fun M' => PgC M' 14 (Hs (n - 1)) ∧ HistC M' (n - 1) Hs ∧ ∀ b, b ≠ 14 → b ≠ 15 → b ≠ 16 → b ≠ 20 → ∀ i, M' b i = M b i) := by
  obtain ⟨q1, q2, q3, q4⟩ := hH
  obtain ⟨w1, w2, w3⟩ := hHW
  unfold f_X0_takeBack
  have key : ∀ (M1 : Mem) (x : Int), x = (if M 20 1 = 0 then 9 else M 20 1 - 1) → (∀ b i, M1 b i = if b = 20 ∧ i = 1 then x else M b i) →
      Ok (lt1 (up M1 20 2 (w32 ((M1 20 2) - 1))) fun M37 => if (0 : Int) ≤ M37 20 1 ∧ M37 20 1 < 10 then lt1 (rfa 21 (M37 20 1).toNat) fun q48 => (f_X4_copyFrom 14 q48 M37).bind fun p56 => some p56 else none) (fun M' => PgC M' 14 (Hs (n - 1)) ∧ HistC M' (n - 1) Hs ∧ ∀ b, b ≠ 14 → b ≠ 15 → b ≠ 16 → b ≠ 20 → ∀ i, M' b i = M b i) := by
    intro M1 x hx e1
    have a2 : M1 20 2 = n := by rw [e1, if_neg (by omega), q1]
    rw [a2, w32_of (by omega) (by omega)]
    refine .put fun M2 e2 => ?_
    have b1 : M2 20 1 = x := by rw [e2, if_neg (by omega), e1, if_pos (by omega)]
    have b2 : M2 20 2 = n - 1 := by rw [e2, if_pos (by omega)]
    have oth : ∀ b, b ≠ 20 → ∀ i, M2 b i = M b i := fun b hb i => by rw [e2, if_neg (by omega), e1, if_neg (by omega)]
    have x0 : 0 ≤ x := by rw [hx]; split <;> omega
    have x1 : x < 10 := by rw [hx]; split <;> omega
    rw [b1]
    refine .ifT ⟨x0, x1⟩ (.let fun q eq => ?_)
    have eq2 : q = 22 + 3 * x.toNat := by rw [eq]; rfl
    have hq := q4 (n - 1) (by omega) (by omega)
    have e : (rix (M 20 1) n (n - 1)).toNat = x.toNat := by
      unfold rix
      split at hx <;> split <;> omega
    rw [e, ← eq2] at hq
    have hq2 : PgC M2 q (Hs (n - 1)) := hq.same (fun i => oth _ (by omega) i) (fun i => oth _ (by omega) i) (fun i => oth _ (by omega) i)
    refine .bind (copyFrom_ok (o := 14) (o1 := q) (by omega) (by omega) (by omega) (by omega) M2 hq2 (w3 _ (by omega) (by omega))) (fun M3 h3 => .ret ?_)
    obtain ⟨hc, fr⟩ := h3
    refine ⟨hc, ⟨(fr 20 (by omega) (by omega) (by omega) 2).trans b2, by rw [fr 20 (by omega) (by omega) (by omega) 1, b1]; exact x0, by rw [fr 20 (by omega) (by omega) (by omega) 1, b1]; exact x1, fun k k0 k1 => ?_⟩, fun b c1 c2 c3 c4 i => (fr b c1 c2 c3 i).trans (oth b c4 i)⟩
    rw [fr 20 (by omega) (by omega) (by omega) 1, b1]
    have h9 := q4 k k0 (by omega)
    have e : rix x (n - 1) k = rix (M 20 1) n k := by
      unfold rix
      split at hx <;> split <;> split <;> omega
    rw [e]
    exact h9.same (fun i => (fr _ (by omega) (by omega) (by omega) i).trans (oth _ (by omega) i)) (fun i => (fr _ (by omega) (by omega) (by omega) i).trans (oth _ (by omega) i)) (fun i => (fr _ (by omega) (by omega) (by omega) i).trans (oth _ (by omega) i))
  refine .ifF (by omega) (.ifC (fun h => .put fun M1 e1 => ?_) (fun h => .put fun M1 e1 => ?_))
  · exact key M1 9 (by rw [if_pos (by omega)]) e1
  · rw [w32_of (by omega) (by omega)] at e1
    exact key M1 _ (by rw [if_neg (by omega)]) e1
theorem keepsRow_L21_ok (o1 : Nat) {Q : Mem → Prop} : ∀ (r fuel : Nat) (k : Int) (M : Mem), (M 84 46 - k).toNat = r → r < fuel → 0 ≤ k → k ≤ M 84 46 → M 84 46 = 9 →
    (∀ M1 : Mem, (∀ b i, M1 b i = if b = 110 ∧ 254 * k ≤ i ∧ i < 254 * 9 then M 110 (i + 254) else M b i) → Ok (f_X10_keepsRow_K58 o1 M1) Q) → Ok (f_X10_keepsRow_L21 fuel o1 k M) Q := by
  intro r
  induction r with
  | zero =>
    intro fuel k M hr hf hk hk2 h2 K
    obtain ⟨fuel, rfl⟩ : ∃ f, fuel = f + 1 := ⟨fuel - 1, by omega⟩
    rw [f_X10_keepsRow_L21]
    refine .ifT (by omega) (K M fun b i => ?_)
    rw [if_neg (by omega)]
  | succ r ih =>
    intro fuel k M hr hf hk hk2 h2 K
    obtain ⟨fuel, rfl⟩ : ∃ f, fuel = f + 1 := ⟨fuel - 1, by omega⟩
    rw [f_X10_keepsRow_L21]
    rw [w32_of (i := k + 1) (by omega) (by omega), w32_of (i := 254 * (k + 1)) (by omega) (by omega), w32_of (i := 254 * k) (by omega) (by omega)]
    have al : alen 110 = 2540 := rfl
    refine .ifF (by omega) (.bind (copies_ok 110 110 (254 * (k + 1)) (254 * k) (by omega) (by omega) (by rw [al]; omega) (by rw [al]; omega) (by omega) (by omega) (Or.inr (by omega)) M) (fun M1 e1 => .let fun k1 ek => ?_))
    subst ek
    have o0 : M1 84 46 = M 84 46 := by rw [e1, if_neg (by omega)]
    refine ih fuel (k + 1) M1 (by omega) (by omega) (by omega) (by omega) (by omega) (fun M2 e2 => K M2 fun b i => ?_)
    rw [e2]
    by_cases hx : b = 110 ∧ 254 * (k + 1) ≤ i ∧ i < 254 * 9
    · rw [if_pos hx, if_pos (by omega), e1, if_neg (by omega)]
    · rw [if_neg hx, e1]
      by_cases hy : b = 110 ∧ 254 * k ≤ i ∧ i < 254 * k + 254
      · rw [if_pos hy, if_pos (by omega), show 254 * (k + 1) + (i - 254 * k) = i + 254 by omega]
      · rw [if_neg hy, if_neg (by omega)]
theorem keepsRow_ok (o1 : Nat) (h14 : o1 = 90 ∨ o1 = 109) (M : Mem) {P : Pg} (hP : PgM M o1 0 P) (hW : Wf P) {n : Int} {Hs : Int → Pg} (hH : HistM M n Hs) (hHW : HistW n Hs) :
    Ok (f_X10_keepsRow o1 M) (fun M' => HistM M' (pushN n) (pushH n Hs P) ∧ ∀ b i, b ≠ 110 → ¬ (b = 84 ∧ i = 46) → M' b i = M b i) := by
  obtain ⟨q1, q4⟩ := hH
  obtain ⟨w1, w2, w3⟩ := hHW
  have al : alen 110 = 2540 := rfl
  have al1 : 254 ≤ alen o1 := by rcases h14 with rfl | rfl <;> decide
  have fin : ∀ (M1 : Mem) (c : Int) (Hs' : Int → Pg), M1 84 46 = c → 0 ≤ c → c ≤ 9 → PgM M1 o1 0 P → (∀ k, 0 ≤ k → k < c → PgM M1 110 (254 * k) (Hs' k) ∧ Wf (Hs' k)) → Ok (f_X10_keepsRow_K58 o1 M1) (fun M' => HistM M' (c + 1) (fun k => if k = c then P else Hs' k) ∧ ∀ b i, b ≠ 110 → ¬ (b = 84 ∧ i = 46) → M' b i = M1 b i) := by
    intro M1 c Hs' hc c0 c1 hP1 hk1
    unfold f_X10_keepsRow_K58
    rw [hc, w32_of (i := 254 * c) (by omega) (by omega)]
    refine .bind (copies_ok o1 110 0 (254 * c) (by omega) (by omega) (by omega) (by rw [al]; omega) (by omega) (by omega) (Or.inl (by omega)) M1) (fun M2 e2 => ?_)
    have o0 : M2 84 46 = c := by rw [e2, if_neg (by omega), hc]
    rw [o0, w32_of (by omega) (by omega)]
    refine .put fun M3 e3 => .ret ⟨⟨by rw [e3, if_pos (by omega)], fun k k0 k1 => ?_⟩, fun b i hb hb2 => ?_⟩
    · show PgM M3 110 (254 * k) (if k = c then P else Hs' k)
      by_cases hk : k = c
      · rw [if_pos hk]
        refine hP1.copied hW (fun i i0 i1 => ?_)
        rw [e3, if_neg (by omega), e2, if_pos (by omega), show 254 * c = 254 * k by omega]
      · rw [if_neg hk]
        have h9 := hk1 k k0 (by omega)
        refine h9.1.copied h9.2 (fun i i0 i1 => ?_)
        rw [e3, if_neg (by omega), e2, if_neg (by omega), show 254 * k + (i - 254 * k) = i by omega]
    · rw [e3, if_neg hb2, e2, if_neg (by omega)]
  unfold f_X10_keepsRow
  by_cases h10 : n = 10
  · refine .ifT (by omega) (.put fun M1 e1 => ?_)
    rw [q1, w32_of (by omega) (by omega)] at e1
    have o0 : M1 84 46 = 9 := by rw [e1, if_pos (by omega)]; omega
    refine keepsRow_L21_ok o1 (M1 84 46 - 0).toNat 4096 0 M1 rfl (by omega) (by omega) (by omega) o0 (fun M2 e2 => ?_)
    refine (fin M2 9 (fun k => Hs (k + 1)) (by rw [e2, if_neg (by omega)]; exact o0) (by omega) (by omega) (hP.same (fun i => by rw [e2, if_neg (by omega), e1, if_neg (by omega)])) (fun k k0 k1 => ⟨?_, w3 _ (by omega) (by omega)⟩)).mono (fun M3 h3 => ?_)
    · refine (q4 (k + 1) (by omega) (by omega)).copied (w3 _ (by omega) (by omega)) (fun i i0 i1 => ?_)
      rw [e2, if_pos (by omega), e1, if_neg (by omega), show 254 * (k + 1) + (i - 254 * k) = i + 254 by omega]
    · obtain ⟨g1, g2⟩ := h3
      refine ⟨?_, fun b i hb hb2 => by rw [g2 b i hb hb2, e2, if_neg (by omega), e1, if_neg (by omega)]⟩
      unfold pushN pushH
      rw [if_pos h10, if_pos h10]
      exact g1
  · refine .ifF (by omega) ?_
    refine (fin M n Hs q1 w1 (by omega) hP (fun k k0 k1 => ⟨q4 k k0 k1, w3 k k0 k1⟩)).mono (fun M3 h3 => ?_)
    unfold pushN pushH
    rw [if_neg h10, if_neg h10]
    exact h3
theorem keeps_ok (M : Mem) {P : Pg} (hP : PgM M 90 0 P) (hW : Wf P) {n : Int} {Hs : Int → Pg} (hH : HistM M n Hs) (hHW : HistW n Hs) :
    Ok (f_X10_keeps M) (fun M' => HistM M' (pushN n) (pushH n Hs P) ∧ ∀ b i, b ≠ 110 → ¬ (b = 84 ∧ i = 46) → M' b i = M b i) := by
  unfold f_X10_keeps
  exact .bind (keepsRow_ok 90 (Or.inl rfl) M hP hW hH hHW) (fun M1 h => .ret h)
