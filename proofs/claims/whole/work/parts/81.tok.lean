/-! ===== tokens ===== -/
def srt (v : Int) : Int := if v = 32 ∨ v = 10 then 5 else if 97 ≤ v ∧ v ≤ 122 then 1 else if 48 ≤ v ∧ v ≤ 57 then 2 else if v = 59 then 3 else if 33 ≤ v ∧ v ≤ 126 then 4 else 6
theorem srt_1 (v : Int) : srt v = 1 ↔ 97 ≤ v ∧ v ≤ 122 := by unfold srt; repeat' split <;> omega
theorem srt_2 (v : Int) : srt v = 2 ↔ 48 ≤ v ∧ v ≤ 57 := by unfold srt; repeat' split <;> omega
theorem srt_3 (v : Int) : srt v = 3 ↔ v = 59 := by unfold srt; repeat' split <;> omega
theorem srt_4 (v : Int) : srt v = 4 ↔ 33 ≤ v ∧ v ≤ 126 ∧ ¬ (97 ≤ v ∧ v ≤ 122) ∧ ¬ (48 ≤ v ∧ v ≤ 57) ∧ v ≠ 59 := by unfold srt; repeat' split <;> omega
theorem srt_5 (v : Int) : srt v = 5 ↔ v = 32 ∨ v = 10 := by unfold srt; repeat' split <;> omega
theorem srt_rng (v : Int) : 1 ≤ srt v ∧ srt v ≤ 6 := by unfold srt; repeat' split <;> omega
theorem sortOf_at (v : Int) (M : Mem) : f_X8_sortOf v M = some (srt v) := by
  have k42 : ¬ (v = 32 ∨ v = 10) → ¬ (97 ≤ v ∧ v ≤ 122) → ¬ (48 ≤ v ∧ v ≤ 57) → f_X8_sortOf_K42 v M = some (srt v) := fun h1 h2 h3 => by
    unfold f_X8_sortOf_K42 srt
    rw [if_neg h1, if_neg h2, if_neg h3]
    by_cases h4 : v = 59
    · rw [if_pos h4, if_pos h4]
    · rw [if_neg h4, if_neg h4]
      by_cases h5 : v ≤ 32
      · rw [if_pos h5, if_neg (by omega)]
      · rw [if_neg h5]
        by_cases h6 : 126 < v
        · rw [if_pos h6, if_neg (by omega)]
        · rw [if_neg h6, if_pos (by omega)]
  have k28 : ¬ (v = 32 ∨ v = 10) → ¬ (97 ≤ v ∧ v ≤ 122) → f_X8_sortOf_K28 v M = some (srt v) := fun h1 h2 => by
    unfold f_X8_sortOf_K28
    by_cases h3 : v < 48
    · rw [if_pos h3]; exact k42 h1 h2 (by omega)
    · rw [if_neg h3]
      by_cases h4 : 57 < v
      · rw [if_pos h4]; exact k42 h1 h2 (by omega)
      · rw [if_neg h4]
        unfold srt
        rw [if_neg h1, if_neg h2, if_pos (by omega)]
  unfold f_X8_sortOf
  by_cases h1 : v = 32
  · rw [if_pos h1]; unfold srt; rw [if_pos (Or.inl h1)]
  · rw [if_neg h1]
    by_cases h2 : v = 10
    · rw [if_pos h2]; unfold srt; rw [if_pos (Or.inr h2)]
    · rw [if_neg h2]
      by_cases h3 : v < 97
      · rw [if_pos h3]; exact k28 (by omega) (by omega)
      · rw [if_neg h3]
        by_cases h4 : 122 < v
        · rw [if_pos h4]; exact k28 (by omega) (by omega)
        · rw [if_neg h4]
          unfold srt
          rw [if_neg (by omega), if_pos (by omega)]
/-- past the blanks -/
def skb (u : Int → Int) : Nat → Nat → Nat
  | 0, n => n
  | r + 1, n => if srt (u n) = 5 then skb u r (n + 1) else n
/-- past a run of one sort -/
def run (u : Int → Int) (k : Int) : Nat → Nat → Nat
  | 0, n => n
  | r + 1, n => if srt (u n) = k then run u k r (n + 1) else n
def lng (k : Int) : Int := if k = 1 then 7 else if k = 2 then 3 else if k = 3 then 1 else if k = 4 then 2 else 1
def ts (u : Int → Int) (E n : Nat) : Nat := skb u (E - n) n
def te (u : Int → Int) (E n : Nat) : Nat := if E ≤ ts u E n then ts u E n else if lng (srt (u (ts u E n))) ≤ 1 then ts u E n + 1 else run u (srt (u (ts u E n))) (E - (ts u E n + 1)) (ts u E n + 1)
def tk (u : Int → Int) (E n : Nat) : Int := if E ≤ ts u E n then 0 else if (te u E n : Int) - ts u E n ≤ lng (srt (u (ts u E n))) then srt (u (ts u E n)) else 6
theorem skb_is (u : Int → Int) : ∀ r n : Nat, n ≤ skb u r n ∧ skb u r n ≤ n + r ∧ (skb u r n < n + r → srt (u (skb u r n)) ≠ 5) := by
  intro r
  induction r with
  | zero => intro n; exact ⟨Nat.le_refl _, Nat.le_refl _, fun h => by have h : n < n + 0 := h; omega⟩
  | succ r ih =>
    intro n
    rw [skb]
    by_cases h : srt (u n) = 5
    · rw [if_pos h]
      have := ih (n + 1)
      exact ⟨by omega, by omega, fun x => this.2.2 (by omega)⟩
    · rw [if_neg h]
      exact ⟨Nat.le_refl _, by omega, fun _ => h⟩
theorem run_is (u : Int → Int) (k : Int) : ∀ r n : Nat, n ≤ run u k r n ∧ run u k r n ≤ n + r ∧ (∀ j : Nat, n ≤ j → j < run u k r n → srt (u j) = k) ∧ (run u k r n < n + r → srt (u (run u k r n)) ≠ k) := by
  intro r
  induction r with
  | zero => intro n; exact ⟨Nat.le_refl _, Nat.le_refl _, fun j j0 j1 => by have j1 : j < n := j1; omega, fun h => by have h : n < n + 0 := h; omega⟩
  | succ r ih =>
    intro n
    rw [run]
    by_cases h : srt (u n) = k
    · rw [if_pos h]
      have := ih (n + 1)
      refine ⟨by omega, by omega, fun j j0 j1 => ?_, fun x => this.2.2.2 (by omega)⟩
      by_cases e : j = n
      · rw [e]; exact h
      · exact this.2.2.1 j (by omega) j1
    · rw [if_neg h]
      exact ⟨Nat.le_refl _, by omega, fun j j0 j1 => by omega, fun _ => h⟩
theorem ts_is (u : Int → Int) {E n : Nat} (h : n ≤ E) : n ≤ ts u E n ∧ ts u E n ≤ E ∧ (ts u E n < E → srt (u (ts u E n)) ≠ 5) := by
  have := skb_is u (E - n) n
  unfold ts
  exact ⟨this.1, by omega, fun x => this.2.2 (by omega)⟩
theorem te_is (u : Int → Int) {E n : Nat} (h : n ≤ E) : ts u E n ≤ te u E n ∧ te u E n ≤ E ∧ (ts u E n < E → ts u E n < te u E n) := by
  have a := ts_is u h
  unfold te
  by_cases h1 : E ≤ ts u E n
  · rw [if_pos h1]; exact ⟨Nat.le_refl _, a.2.1, fun x => by omega⟩
  · rw [if_neg h1]
    by_cases h2 : lng (srt (u (ts u E n))) ≤ 1
    · rw [if_pos h2]; omega
    · rw [if_neg h2]
      have := run_is u (srt (u (ts u E n))) (E - (ts u E n + 1)) (ts u E n + 1)
      omega
theorem tk_0 (u : Int → Int) {E n : Nat} (h : n ≤ E) : tk u E n = 0 ↔ ts u E n = E := by
  have a := ts_is u h
  have r := srt_rng (u (ts u E n))
  unfold tk
  by_cases h1 : E ≤ ts u E n
  · rw [if_pos h1]; omega
  · rw [if_neg h1]
    split <;> omega
/-- a token that is not the end: its sort -/
theorem tk_is (u : Int → Int) {E n : Nat} (h : n ≤ E) {k : Int} (hk : tk u E n = k) (h0 : k ≠ 0) (h6 : k ≠ 6) : ts u E n < E ∧ srt (u (ts u E n)) = k ∧ (te u E n : Int) - ts u E n ≤ lng k ∧ ts u E n < te u E n ∧ te u E n ≤ E ∧ ∀ j : Nat, ts u E n ≤ j → j < te u E n → srt (u j) = k := by
  have a := ts_is u h
  have b := te_is u h
  unfold tk at hk
  by_cases h1 : E ≤ ts u E n
  · rw [if_pos h1] at hk; omega
  · rw [if_neg h1] at hk
    by_cases h2 : (te u E n : Int) - ts u E n ≤ lng (srt (u (ts u E n)))
    · rw [if_pos h2] at hk
      refine ⟨by omega, hk, by rw [← hk]; exact h2, by omega, b.2.1, fun j j0 j1 => ?_⟩
      by_cases e : j = ts u E n
      · rw [e]; exact hk
      · unfold te at j1
        rw [if_neg h1] at j1
        by_cases h3 : lng (srt (u (ts u E n))) ≤ 1
        · rw [if_pos h3] at j1; omega
        · rw [if_neg h3, hk] at j1
          exact (run_is u k (E - (ts u E n + 1)) (ts u E n + 1)).2.2.1 j (by omega) j1
    · rw [if_neg h2] at hk; omega
theorem tk_rng (u : Int → Int) {E n : Nat} (h : n ≤ E) : 0 ≤ tk u E n ∧ tk u E n ≤ 6 ∧ tk u E n ≠ 5 := by
  have a := ts_is u h
  have r := srt_rng (u (ts u E n))
  unfold tk
  by_cases h1 : E ≤ ts u E n
  · rw [if_pos h1]; omega
  · rw [if_neg h1]
    have := a.2.2 (by omega)
    split <;> omega
/-- the class's tokens at p -/
def TC (u : Int → Int) (E p : Nat) (M : Mem) : Prop := M 3 1 = E ∧ M 3 2 = ts u E p ∧ M 3 3 = te u E p ∧ M 3 4 = tk u E p
def Fr3o (M M' : Mem) : Prop := ∀ (c : Nat) (i : Int), c ≠ 3 → M' c i = M c i
theorem longest_at (M : Mem) : f_X8_longest M = some (lng (M 3 4)) := by
  unfold f_X8_longest lng
  by_cases h1 : M 3 4 = 1
  · rw [if_pos h1, if_pos h1]
  · rw [if_neg h1, if_neg h1]
    by_cases h2 : M 3 4 = 2
    · rw [if_pos h2, if_pos h2]
    · rw [if_neg h2, if_neg h2]
      by_cases h3 : M 3 4 = 3
      · rw [if_pos h3, if_pos h3]
      · rw [if_neg h3, if_neg h3]
        split <;> rfl
theorem mv_K156 {E s e : Nat} {k : Int} (hE : E ≤ 600) (hs : s < e) (he : e ≤ E) (M : Mem) (h1 : M 3 1 = E) (h2 : M 3 2 = s) (h3 : M 3 3 = e) (h4 : M 3 4 = k) : Ok (f_X8_moveOn_K156 M) (fun M' => M' 3 1 = E ∧ M' 3 2 = s ∧ M' 3 3 = e ∧ M' 3 4 = (if (e : Int) - s ≤ lng k then k else 6) ∧ Fr3o M M') := by
  unfold f_X8_moveOn_K156
  refine .bind (.val (longest_at M)) (fun z hz => ?_)
  rw [h4] at hz
  rw [h3, h2, w32_of (by omega) (by omega)]
  refine .ifC (fun hc => .ret ⟨h1, h2, h3, ?_, fun _ _ _ => rfl⟩) (fun hc => .put fun M1 e1 => .ret ⟨?_, ?_, ?_, ?_, fun c i hc => by rw [e1, if_neg (by omega)]⟩)
  · rw [if_pos (by omega)]; exact h4
  · rw [e1, if_neg (by omega)]; exact h1
  · rw [e1, if_neg (by omega)]; exact h2
  · rw [e1, if_neg (by omega)]; exact h3
  · rw [e1, if_pos ⟨rfl, rfl⟩, if_neg (by omega)]
theorem mv_L103 {u : Int → Int} {E s : Nat} {k : Int} (hE : E ≤ 600) (hk : 1 < lng k) : ∀ (r fuel e : Nat) (M : Mem), E - e = r → r < fuel → s < e → e ≤ E → (∀ j : Nat, j < E → M 2 j = u j) → M 3 1 = E → M 3 2 = s → M 3 3 = e → M 3 4 = k → Ok (f_X8_moveOn_L103 fuel M) (fun M' => M' 3 1 = E ∧ M' 3 2 = s ∧ M' 3 3 = run u k r e ∧ M' 3 4 = (if (run u k r e : Int) - s ≤ lng k then k else 6) ∧ Fr3o M M') := by
  intro r
  induction r with
  | zero =>
    intro fuel e M hr hf hs he hu h1 h2 h3 h4
    obtain ⟨fuel, rfl⟩ : ∃ f, fuel = f + 1 := ⟨fuel - 1, by omega⟩
    rw [f_X8_moveOn_L103]
    exact .ifT (by omega) (mv_K156 hE hs he M h1 h2 h3 h4)
  | succ r ih =>
    intro fuel e M hr hf hs he hu h1 h2 h3 h4
    obtain ⟨fuel, rfl⟩ : ∃ f, fuel = f + 1 := ⟨fuel - 1, by omega⟩
    rw [f_X8_moveOn_L103]
    refine .ifF (by omega) (.bind (.val (longest_at M)) (fun z hz => ?_))
    rw [h4] at hz
    refine .ifF (by omega) (.bind (.val (ibyteAt_ok (M 3 3) M)) (fun y hy => .bind (.val (sortOf_at y M)) (fun x hx => ?_)))
    rw [h3, if_pos (by omega), hu e (by omega)] at hy
    subst hy
    rw [h4, h3, w32_of (by omega) (by omega)]
    refine .ifC (fun hc => .put fun M1 e1 => ?_) (fun hc => ?_)
    · have er : run u k (r + 1) e = run u k r (e + 1) := by rw [run, if_pos (by omega)]
      rw [er]
      refine (ih fuel (e + 1) M1 (by omega) (by omega) (by omega) (by omega) (fun j hj => by rw [e1, if_neg (by omega)]; exact hu j hj) (by rw [e1, if_neg (by omega)]; exact h1) (by rw [e1, if_neg (by omega)]; exact h2) (by rw [e1, if_pos ⟨rfl, rfl⟩]; omega) (by rw [e1, if_neg (by omega)]; exact h4)).mono (fun M' ⟨a, b, c, d, f⟩ => ⟨a, b, c, d, fun c' i hc' => by rw [f c' i hc', e1, if_neg (by omega)]⟩)
    · have er : run u k (r + 1) e = e := by rw [run, if_neg (by omega)]
      rw [er]
      exact mv_K156 hE hs he M h1 h2 h3 h4
theorem mv_K50 {u : Int → Int} {E p : Nat} (hE : E ≤ 600) (hp : p ≤ E) (M : Mem) (hu : ∀ j : Nat, j < E → M 2 j = u j) (h1 : M 3 1 = E) (h2 : M 3 2 = ts u E p) : Ok (f_X8_moveOn_K50 M) (fun M' => TC u E p M' ∧ Fr3o M M') := by
  have a := ts_is u hp
  unfold f_X8_moveOn_K50
  refine .put fun M1 e1 => ?_
  have g1 : M1 3 1 = E := by rw [e1, if_neg (by omega)]; exact h1
  have g2 : M1 3 2 = ts u E p := by rw [e1, if_neg (by omega)]; exact h2
  have g3 : M1 3 3 = ts u E p := by rw [e1, if_pos ⟨rfl, rfl⟩]; exact h2
  have gu : ∀ j : Nat, j < E → M1 2 j = u j := fun j hj => by rw [e1, if_neg (by omega)]; exact hu j hj
  by_cases hs : ts u E p < E
  · refine .ifT (by omega) (.bind (.val (ibyteAt_ok (M1 3 2) M1)) (fun y hy => .bind (.val (sortOf_at y M1)) (fun x hx => .put fun M2 e2 => ?_)))
    rw [g2, if_pos (by omega), gu _ hs] at hy
    subst hy
    subst hx
    have k3 : M2 3 3 = ts u E p := by rw [e2, if_neg (by omega)]; exact g3
    rw [k3, w32_of (by omega) (by omega)]
    refine .put fun M3 e3 => ?_
    have q1 : M3 3 1 = E := by rw [e3, if_neg (by omega), e2, if_neg (by omega)]; exact g1
    have q2 : M3 3 2 = ts u E p := by rw [e3, if_neg (by omega), e2, if_neg (by omega)]; exact g2
    have q3 : M3 3 3 = ((ts u E p + 1 : Nat) : Int) := by rw [e3, if_pos ⟨rfl, rfl⟩]; omega
    have q4 : M3 3 4 = srt (u (ts u E p)) := by rw [e3, if_neg (by omega), e2, if_pos ⟨rfl, rfl⟩]
    have qu : ∀ j : Nat, j < E → M3 2 j = u j := fun j hj => by rw [e3, if_neg (by omega), e2, if_neg (by omega)]; exact gu j hj
    have fr : Fr3o M M3 := fun c i hc => by rw [e3, if_neg (by omega), e2, if_neg (by omega), e1, if_neg (by omega)]
    by_cases hl : lng (srt (u (ts u E p))) ≤ 1
    · have et : te u E p = ts u E p + 1 := by unfold te; rw [if_neg (by omega), if_pos hl]
      rw [f_X8_moveOn_L103]
      have fin : Ok (f_X8_moveOn_K156 M3) (fun M' => TC u E p M' ∧ Fr3o M M') := by
        refine (mv_K156 hE (s := ts u E p) (e := ts u E p + 1) (by omega) (by omega) M3 q1 q2 q3 q4).mono (fun M' ⟨b1, b2, b3, b4, b5⟩ => ⟨⟨b1, b2, by rw [et]; exact b3, ?_⟩, fun c i hc => (b5 c i hc).trans (fr c i hc)⟩)
        unfold tk
        rw [if_neg (by omega), et]
        exact b4
      refine .ifC (fun _ => fin) (fun _ => .bind (.val (longest_at M3)) (fun z hz => .ifT (by rw [hz, q4]; exact hl) fin))
    · have et : te u E p = run u (srt (u (ts u E p))) (E - (ts u E p + 1)) (ts u E p + 1) := by unfold te; rw [if_neg (by omega), if_neg hl]
      refine (mv_L103 (u := u) hE (by omega) (E - (ts u E p + 1)) 4096 (ts u E p + 1) M3 rfl (by omega) (by omega) (by omega) qu q1 q2 q3 q4).mono (fun M' ⟨b1, b2, b3, b4, b5⟩ => ⟨⟨b1, b2, by rw [et]; exact b3, ?_⟩, fun c i hc => (b5 c i hc).trans (fr c i hc)⟩)
      unfold tk
      rw [if_neg (by omega), et]
      exact b4
  · refine .ifF (by omega) (.put fun M2 e2 => .ret ⟨⟨?_, ?_, ?_, ?_⟩, fun c i hc => by rw [e2, if_neg (by omega), e1, if_neg (by omega)]⟩)
    · rw [e2, if_neg (by omega)]; exact g1
    · rw [e2, if_neg (by omega)]; exact g2
    · rw [e2, if_neg (by omega), g3]
      unfold te; rw [if_pos (by omega)]
    · rw [e2, if_pos ⟨rfl, rfl⟩]
      unfold tk; rw [if_pos (by omega)]
theorem mv_L8 {u : Int → Int} {E p : Nat} (hE : E ≤ 600) (hp : p ≤ E) : ∀ (r fuel n : Nat) (M : Mem), E - n = r → r < fuel → n ≤ E → skb u r n = ts u E p → (∀ j : Nat, j < E → M 2 j = u j) → M 3 1 = E → M 3 2 = n → Ok (f_X8_moveOn_L8 fuel M) (fun M' => TC u E p M' ∧ Fr3o M M') := by
  intro r
  induction r with
  | zero =>
    intro fuel n M hr hf hn hsk hu h1 h2
    obtain ⟨fuel, rfl⟩ : ∃ f, fuel = f + 1 := ⟨fuel - 1, by omega⟩
    rw [f_X8_moveOn_L8]
    exact .ifT (by omega) (mv_K50 hE hp M hu h1 (by rw [h2, ← hsk]; rfl))
  | succ r ih =>
    intro fuel n M hr hf hn hsk hu h1 h2
    obtain ⟨fuel, rfl⟩ : ∃ f, fuel = f + 1 := ⟨fuel - 1, by omega⟩
    rw [f_X8_moveOn_L8]
    refine .ifF (by omega) (.bind (.val (ibyteAt_ok (M 3 2) M)) (fun y hy => .bind (.val (sortOf_at y M)) (fun x hx => ?_)))
    rw [h2, if_pos (by omega), hu n (by omega)] at hy
    subst hy
    rw [h2, w32_of (by omega) (by omega)]
    refine .ifC (fun hc => .put fun M1 e1 => ?_) (fun hc => ?_)
    · have es : skb u (r + 1) n = skb u r (n + 1) := by rw [skb, if_pos (by omega)]
      refine (ih fuel (n + 1) M1 (by omega) (by omega) (by omega) (by rw [← es]; exact hsk) (fun j hj => by rw [e1, if_neg (by omega)]; exact hu j hj) (by rw [e1, if_neg (by omega)]; exact h1) (by rw [e1, if_pos ⟨rfl, rfl⟩]; omega)).mono (fun M' ⟨a, b⟩ => ⟨a, fun c i hc' => by rw [b c i hc', e1, if_neg (by omega)]⟩)
    · have es : skb u (r + 1) n = n := by rw [skb, if_neg (by omega)]
      exact mv_K50 hE hp M hu h1 (by rw [h2, ← hsk, es])
/-- the class goes on to the next token -/
theorem c_moveOn {u : Int → Int} {E p : Nat} (hE : E ≤ 600) (hp : p ≤ E) (M : Mem) (hu : ∀ j : Nat, j < E → M 2 j = u j) (h1 : M 3 1 = E) (h3 : M 3 3 = p) : Ok (f_X8_moveOn M) (fun M' => TC u E p M' ∧ Fr3o M M') := by
  unfold f_X8_moveOn
  refine .put fun M1 e1 => ?_
  refine (mv_L8 hE hp (E - p) 4096 p M1 rfl (by omega) hp rfl (fun j hj => by rw [e1, if_neg (by omega)]; exact hu j hj) (by rw [e1, if_neg (by omega)]; exact h1) (by rw [e1, if_pos ⟨rfl, rfl⟩]; exact h3)).mono (fun M' ⟨a, b⟩ => ⟨a, fun c i hc => by rw [b c i hc, e1, if_neg (by omega)]⟩)
/-! the model's tokens -/
def tkm (u : Int → Int) (E p : Nat) : Int := if tk u E p = 4 then (if (te u E p : Int) - ts u E p = 1 then 4 else 5) else tk u E p
/-- a number's digits -/
def dec (u : Int → Int) (s : Nat) : Nat → Int
  | 0 => 0
  | m + 1 => 10 * dec u s m + u ((s + m : Nat) : Int) - 48
def TM (u : Int → Int) (E p : Nat) (M : Mem) : Prop := M 84 17 = E ∧ M 84 18 = ts u E p ∧ M 84 19 = te u E p ∧ M 84 20 = tkm u E p ∧ (tk u E p = 2 → M 84 21 = dec u (ts u E p) (te u E p - ts u E p))
def FrTk (M M' : Mem) : Prop := ∀ (c : Nat) (i : Int), ¬ (c = 84 ∧ 18 ≤ i ∧ i ≤ 21) → M' c i = M c i
/-- bytes of the model's text -/
def Bu (u : Int → Int) (E : Nat) (M : Mem) : Prop := ∀ j : Nat, j < E → M 91 j % 256 = u j
theorem mbyteAt_at {u : Int → Int} {E : Nat} (hE : E ≤ 600) {M : Mem} (h17 : M 84 17 = E) (hb : Bu u E M) {n : Nat} (hn : n ≤ E) : f_X10_byteAt n M = some (if n = E then -1 else u n) := by
  unfold f_X10_byteAt
  rw [h17]
  by_cases h : n = E
  · rw [if_pos (by omega), if_pos h]
  · rw [if_neg (by omega), if_pos (by omega), ian_mod, hb n (by omega), if_neg h]
theorem isLetter_at (v : Int) (M : Mem) : f_X10_isLetter v M = some (if srt v = 1 then 1 else 0) := by
  have := srt_1 v
  unfold f_X10_isLetter
  rw [isIn_at]
  by_cases h : srt v = 1
  · rw [if_pos h, if_pos (by omega)]; rfl
  · rw [if_neg h, if_neg (by omega)]; rfl
theorem isDigit_at (v : Int) (M : Mem) : f_X10_isDigit v M = some (if srt v = 2 then 1 else 0) := by
  have := srt_2 v
  unfold f_X10_isDigit
  rw [isIn_at]
  by_cases h : srt v = 2
  · rw [if_pos h, if_pos (by omega)]; rfl
  · rw [if_neg h, if_neg (by omega)]; rfl
theorem isSign_at (v : Int) (M : Mem) : f_X10_isSign v M = some (if srt v = 4 then 1 else 0) := by
  have s1 := srt_1 v
  have s2 := srt_2 v
  have s3 := srt_3 v
  have s4 := srt_4 v
  unfold f_X10_isSign
  rw [isIn_at, isLetter_at, isDigit_at]
  by_cases h : 33 ≤ v ∧ v ≤ 126
  · rw [if_pos h]
    show (if (1 : Int) = 0 then some 0 else ((some (if srt v = 1 then (1 : Int) else 0)).bind fun p12 => if p12 = 0 then (some (if srt v = 2 then (1 : Int) else 0)).bind fun p19 => if p19 = 0 then if v = 59 then some 0 else some 1 else some 0 else some 0)) = _
    rw [if_neg (by decide)]
    simp only [Option.bind_some]
    by_cases h1 : srt v = 1
    · rw [if_pos h1, if_neg (by decide), if_neg (by omega)]
    · rw [if_neg h1, if_pos rfl]
      by_cases h2 : srt v = 2
      · rw [if_pos h2, if_neg (by decide), if_neg (by omega)]
      · rw [if_neg h2, if_pos rfl]
        by_cases h3 : v = 59
        · rw [if_pos h3, if_neg (by omega)]
        · rw [if_neg h3, if_pos (by omega)]
  · rw [if_neg h, if_neg (c := srt v = 4) (by omega)]
    rfl
theorem srt_m1 : srt (-1) = 6 := by decide
