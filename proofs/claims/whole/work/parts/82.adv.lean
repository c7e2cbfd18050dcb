/-! ===== the model goes on to the next token ===== -/
theorem run_one {u : Int → Int} {k : Int} {E s : Nat} (hs : s < E) (hk : srt (u s) = k) : run u k (E - s) s = run u k (E - (s + 1)) (s + 1) := by
  rw [show E - s = E - (s + 1) + 1 by omega, run, if_pos hk]
theorem dec_bd {u : Int → Int} {s : Nat} : ∀ m : Nat, m ≤ 3 → (∀ j : Nat, j < m → 48 ≤ u ((s + j : Nat) : Int) ∧ u ((s + j : Nat) : Int) ≤ 57) → 0 ≤ dec u s m ∧ dec u s m ≤ 999 ∧ (m ≤ 2 → dec u s m ≤ 99) ∧ (m ≤ 1 → dec u s m ≤ 9) := by
  intro m hm h
  have h0 : dec u s 0 = 0 := rfl
  have h1 : dec u s 1 = 10 * dec u s 0 + u ((s + 0 : Nat) : Int) - 48 := rfl
  have h2 : dec u s 2 = 10 * dec u s 1 + u ((s + 1 : Nat) : Int) - 48 := rfl
  have h3 : dec u s 3 = 10 * dec u s 2 + u ((s + 2 : Nat) : Int) - 48 := rfl
  have hm2 : m = 0 ∨ m = 1 ∨ m = 2 ∨ m = 3 := by omega
  rcases hm2 with rfl | rfl | rfl | rfl
  · omega
  · have := h 0 (by omega); omega
  · have := h 0 (by omega); have := h 1 (by omega); omega
  · have := h 0 (by omega); have := h 1 (by omega); have := h 2 (by omega); omega
theorem bu_same {u : Int → Int} {E : Nat} {M M' : Mem} (h : Bu u E M) (e : ∀ j, M' 91 j = M 91 j) : Bu u E M' := fun j hj => by rw [e]; exact h j hj
theorem ad_L81 {u : Int → Int} {E s : Nat} (hE : E ≤ 600) : ∀ (r fuel n : Nat) (M : Mem), E - n = r → r < fuel → s ≤ n → n ≤ E → Bu u E M → M 84 17 = E → M 84 18 = s → M 84 19 = n → Ok (f_X10_advance_L81 fuel M) (fun M' => M' 84 17 = E ∧ M' 84 18 = s ∧ M' 84 19 = run u 1 r n ∧ M' 84 20 = (if (run u 1 r n : Int) - s ≤ 7 then 1 else 6) ∧ FrTk M M') := by
  intro r
  have fin : ∀ (n : Nat) (M : Mem), s ≤ n → n ≤ E → M 84 17 = E → M 84 18 = s → M 84 19 = n → Ok (f_X10_advance_K108 M) (fun M' => M' 84 17 = E ∧ M' 84 18 = s ∧ M' 84 19 = n ∧ M' 84 20 = (if (n : Int) - s ≤ 7 then 1 else 6) ∧ FrTk M M') := by
    intro n M hs hn h17 h18 h19
    unfold f_X10_advance_K108
    rw [h19, h18, w32_of (by omega) (by omega)]
    refine .ifC (fun hc => .put fun M1 e1 => .ret ⟨?_, ?_, ?_, ?_, fun c i hc' => by rw [e1, if_neg (by omega)]⟩) (fun hc => .put fun M1 e1 => .ret ⟨?_, ?_, ?_, ?_, fun c i hc' => by rw [e1, if_neg (by omega)]⟩)
    · rw [e1, if_neg (by omega)]; exact h17
    · rw [e1, if_neg (by omega)]; exact h18
    · rw [e1, if_neg (by omega)]; exact h19
    · rw [e1, if_pos ⟨rfl, rfl⟩, if_pos hc]
    · rw [e1, if_neg (by omega)]; exact h17
    · rw [e1, if_neg (by omega)]; exact h18
    · rw [e1, if_neg (by omega)]; exact h19
    · rw [e1, if_pos ⟨rfl, rfl⟩, if_neg hc]
  induction r with
  | zero =>
    intro fuel n M hr hf hs hn hb h17 h18 h19
    obtain ⟨fuel, rfl⟩ : ∃ f, fuel = f + 1 := ⟨fuel - 1, by omega⟩
    rw [f_X10_advance_L81, h19]
    refine .bind (.val (mbyteAt_at hE h17 hb hn)) (fun y hy => .bind (.val (isLetter_at y M)) (fun z hz => ?_))
    rw [if_pos (by omega)] at hy
    rw [hy, srt_m1, if_neg (by decide)] at hz
    exact .ifT hz (fin n M hs hn h17 h18 h19)
  | succ r ih =>
    intro fuel n M hr hf hs hn hb h17 h18 h19
    obtain ⟨fuel, rfl⟩ : ∃ f, fuel = f + 1 := ⟨fuel - 1, by omega⟩
    rw [f_X10_advance_L81, h19]
    refine .bind (.val (mbyteAt_at hE h17 hb hn)) (fun y hy => .bind (.val (isLetter_at y M)) (fun z hz => ?_))
    rw [if_neg (by omega)] at hy
    subst hy
    rw [w32_of (by omega) (by omega)]
    by_cases hc : srt (u n) = 1
    · rw [if_pos hc] at hz
      have er : run u 1 (r + 1) n = run u 1 r (n + 1) := by rw [run, if_pos hc]
      rw [er]
      refine .ifF (by omega) (.put fun M1 e1 => ?_)
      refine (ih fuel (n + 1) M1 (by omega) (by omega) (by omega) (by omega) (bu_same hb (fun j => by rw [e1, if_neg (by omega)])) (by rw [e1, if_neg (by omega)]; exact h17) (by rw [e1, if_neg (by omega)]; exact h18) (by rw [e1, if_pos ⟨rfl, rfl⟩]; omega)).mono (fun M' ⟨a, b, c, d, f⟩ => ⟨a, b, c, d, fun c' i hc' => by rw [f c' i hc', e1, if_neg (by omega)]⟩)
    · rw [if_neg hc] at hz
      have er : run u 1 (r + 1) n = n := by rw [run, if_neg hc]
      rw [er]
      exact .ifT hz (fin n M hs hn h17 h18 h19)
theorem ad_L245 {u : Int → Int} {E s : Nat} (hE : E ≤ 600) : ∀ (r fuel n : Nat) (M : Mem), E - n = r → r < fuel → s ≤ n → n ≤ E → Bu u E M → M 84 17 = E → M 84 18 = s → M 84 19 = n → Ok (f_X10_advance_L245 fuel M) (fun M' => M' 84 17 = E ∧ M' 84 18 = s ∧ M' 84 19 = run u 4 r n ∧ M' 84 20 = (if (run u 4 r n : Int) - s = 1 then 4 else if (run u 4 r n : Int) - s = 2 then 5 else 6) ∧ FrTk M M') := by
  intro r
  have fin : ∀ (n : Nat) (M : Mem), s ≤ n → n ≤ E → M 84 17 = E → M 84 18 = s → M 84 19 = n → Ok (f_X10_advance_K272 M) (fun M' => M' 84 17 = E ∧ M' 84 18 = s ∧ M' 84 19 = n ∧ M' 84 20 = (if (n : Int) - s = 1 then 4 else if (n : Int) - s = 2 then 5 else 6) ∧ FrTk M M') := by
    intro n M hs hn h17 h18 h19
    have pt : ∀ (M1 : Mem) (v : Int), (∀ b i, M1 b i = if b = 84 ∧ i = 20 then v else M b i) → v = (if (n : Int) - s = 1 then 4 else if (n : Int) - s = 2 then 5 else 6) → M1 84 17 = E ∧ M1 84 18 = s ∧ M1 84 19 = n ∧ M1 84 20 = (if (n : Int) - s = 1 then 4 else if (n : Int) - s = 2 then 5 else 6) ∧ FrTk M M1 := by
      intro M1 v e1 hv
      refine ⟨?_, ?_, ?_, ?_, fun c i hc' => by rw [e1, if_neg (by omega)]⟩
      · rw [e1, if_neg (by omega)]; exact h17
      · rw [e1, if_neg (by omega)]; exact h18
      · rw [e1, if_neg (by omega)]; exact h19
      · rw [e1, if_pos ⟨rfl, rfl⟩]; exact hv
    unfold f_X10_advance_K272
    rw [h19, h18, w32_of (by omega) (by omega)]
    refine .ifC (fun hc => .put fun M1 e1 => .ret (pt M1 _ e1 (by rw [if_pos hc]))) (fun hc => .ifC (fun hd => .put fun M1 e1 => .ret (pt M1 _ e1 (by rw [if_neg hc, if_pos hd]))) (fun hd => .put fun M1 e1 => .ret (pt M1 _ e1 (by rw [if_neg hc, if_neg hd]))))
  induction r with
  | zero =>
    intro fuel n M hr hf hs hn hb h17 h18 h19
    obtain ⟨fuel, rfl⟩ : ∃ f, fuel = f + 1 := ⟨fuel - 1, by omega⟩
    rw [f_X10_advance_L245, h19]
    refine .bind (.val (mbyteAt_at hE h17 hb hn)) (fun y hy => .bind (.val (isSign_at y M)) (fun z hz => ?_))
    rw [if_pos (by omega)] at hy
    rw [hy, srt_m1, if_neg (by decide)] at hz
    exact .ifT hz (fin n M hs hn h17 h18 h19)
  | succ r ih =>
    intro fuel n M hr hf hs hn hb h17 h18 h19
    obtain ⟨fuel, rfl⟩ : ∃ f, fuel = f + 1 := ⟨fuel - 1, by omega⟩
    rw [f_X10_advance_L245, h19]
    refine .bind (.val (mbyteAt_at hE h17 hb hn)) (fun y hy => .bind (.val (isSign_at y M)) (fun z hz => ?_))
    rw [if_neg (by omega)] at hy
    subst hy
    rw [w32_of (by omega) (by omega)]
    by_cases hc : srt (u n) = 4
    · rw [if_pos hc] at hz
      have er : run u 4 (r + 1) n = run u 4 r (n + 1) := by rw [run, if_pos hc]
      rw [er]
      refine .ifF (by omega) (.put fun M1 e1 => ?_)
      refine (ih fuel (n + 1) M1 (by omega) (by omega) (by omega) (by omega) (bu_same hb (fun j => by rw [e1, if_neg (by omega)])) (by rw [e1, if_neg (by omega)]; exact h17) (by rw [e1, if_neg (by omega)]; exact h18) (by rw [e1, if_pos ⟨rfl, rfl⟩]; omega)).mono (fun M' ⟨a, b, c, d, f⟩ => ⟨a, b, c, d, fun c' i hc' => by rw [f c' i hc', e1, if_neg (by omega)]⟩)
    · rw [if_neg hc] at hz
      have er : run u 4 (r + 1) n = n := by rw [run, if_neg hc]
      rw [er]
      exact .ifT hz (fin n M hs hn h17 h18 h19)
theorem ad_L142 {u : Int → Int} {E s : Nat} (hE : E ≤ 600) : ∀ (r fuel n : Nat) (M : Mem), E - n = r → r < fuel → s ≤ n → n ≤ E → (∀ j : Nat, s ≤ j → j < n → srt (u j) = 2) → Bu u E M → M 84 17 = E → M 84 18 = s → M 84 19 = n → M 84 21 = dec u s (min (n - s) 3) → Ok (f_X10_advance_L142 fuel M) (fun M' => M' 84 17 = E ∧ M' 84 18 = s ∧ M' 84 19 = run u 2 r n ∧ M' 84 20 = (if (run u 2 r n : Int) - s ≤ 3 then 2 else 6) ∧ M' 84 21 = dec u s (min (run u 2 r n - s) 3) ∧ FrTk M M') := by
  intro r
  have fin : ∀ (n : Nat) (M : Mem), s ≤ n → n ≤ E → M 84 17 = E → M 84 18 = s → M 84 19 = n → M 84 21 = dec u s (min (n - s) 3) → Ok (f_X10_advance_K212 M) (fun M' => M' 84 17 = E ∧ M' 84 18 = s ∧ M' 84 19 = n ∧ M' 84 20 = (if (n : Int) - s ≤ 3 then 2 else 6) ∧ M' 84 21 = dec u s (min (n - s) 3) ∧ FrTk M M') := by
    intro n M hs hn h17 h18 h19 h21
    have pt : ∀ (M1 : Mem) (v : Int), (∀ b i, M1 b i = if b = 84 ∧ i = 20 then v else M b i) → v = (if (n : Int) - s ≤ 3 then 2 else 6) → M1 84 17 = E ∧ M1 84 18 = s ∧ M1 84 19 = n ∧ M1 84 20 = (if (n : Int) - s ≤ 3 then 2 else 6) ∧ M1 84 21 = dec u s (min (n - s) 3) ∧ FrTk M M1 := by
      intro M1 v e1 hv
      refine ⟨?_, ?_, ?_, ?_, ?_, fun c i hc' => by rw [e1, if_neg (by omega)]⟩
      · rw [e1, if_neg (by omega)]; exact h17
      · rw [e1, if_neg (by omega)]; exact h18
      · rw [e1, if_neg (by omega)]; exact h19
      · rw [e1, if_pos ⟨rfl, rfl⟩]; exact hv
      · rw [e1, if_neg (by omega)]; exact h21
    unfold f_X10_advance_K212
    rw [h19, h18, w32_of (by omega) (by omega)]
    refine .ifC (fun hc => .put fun M1 e1 => .ret (pt M1 _ e1 (by rw [if_pos hc]))) (fun hc => .put fun M1 e1 => .ret (pt M1 _ e1 (by rw [if_neg hc])))
  induction r with
  | zero =>
    intro fuel n M hr hf hs hn hd hb h17 h18 h19 h21
    obtain ⟨fuel, rfl⟩ : ∃ f, fuel = f + 1 := ⟨fuel - 1, by omega⟩
    rw [f_X10_advance_L142, h19]
    refine .bind (.val (mbyteAt_at hE h17 hb hn)) (fun y hy => .bind (.val (isDigit_at y M)) (fun z hz => ?_))
    rw [if_pos (by omega)] at hy
    rw [hy, srt_m1, if_neg (by decide)] at hz
    exact .ifT hz (fin n M hs hn h17 h18 h19 h21)
  | succ r ih =>
    intro fuel n M hr hf hs hn hd hb h17 h18 h19 h21
    obtain ⟨fuel, rfl⟩ : ∃ f, fuel = f + 1 := ⟨fuel - 1, by omega⟩
    rw [f_X10_advance_L142, h19, h18]
    refine .bind (.val (mbyteAt_at hE h17 hb hn)) (fun y hy => .bind (.val (isDigit_at y M)) (fun z hz => ?_))
    rw [if_neg (by omega)] at hy
    subst hy
    rw [w32_of (i := (n : Int) - (s : Int)) (by omega) (by omega)]
    by_cases hc : srt (u n) = 2
    · rw [if_pos hc] at hz
      have er : run u 2 (r + 1) n = run u 2 r (n + 1) := by rw [run, if_pos hc]
      have hd' : ∀ j : Nat, s ≤ j → j < n + 1 → srt (u j) = 2 := fun j j0 j1 => by
        by_cases e : j = n
        · rw [e]; exact hc
        · exact hd j j0 (by omega)
      rw [er]
      have go : ∀ (M1 M2 : Mem) (v : Int), (∀ b i, M1 b i = if b = 84 ∧ i = 21 then v else M b i) → (∀ b i, M2 b i = if b = 84 ∧ i = 19 then (n : Int) + 1 else M1 b i) → v = dec u s (min (n + 1 - s) 3) → Ok (f_X10_advance_L142 fuel M2) (fun M' => M' 84 17 = E ∧ M' 84 18 = s ∧ M' 84 19 = run u 2 r (n + 1) ∧ M' 84 20 = (if (run u 2 r (n + 1) : Int) - s ≤ 3 then 2 else 6) ∧ M' 84 21 = dec u s (min (run u 2 r (n + 1) - s) 3) ∧ FrTk M M') := by
        intro M1 M2 v e1 e2 hv
        refine (ih fuel (n + 1) M2 (by omega) (by omega) (by omega) (by omega) hd' (bu_same hb (fun j => by rw [e2, if_neg (by omega), e1, if_neg (by omega)])) (by rw [e2, if_neg (by omega), e1, if_neg (by omega)]; exact h17) (by rw [e2, if_neg (by omega), e1, if_neg (by omega)]; exact h18) (by rw [e2, if_pos ⟨rfl, rfl⟩]; omega) (by rw [e2, if_neg (by omega), e1, if_pos ⟨rfl, rfl⟩]; exact hv)).mono (fun M' ⟨a, b, c, d, f, g⟩ => ⟨a, b, c, d, f, fun c' i hc' => by rw [g c' i hc', e2, if_neg (by omega), e1, if_neg (by omega)]⟩)
      refine .ifF (by omega) (.ifC (fun h3 => .put fun M1 e1 => ?_) (fun h3 => .bind (.val (mbyteAt_at hE h17 hb hn)) (fun y hy => ?_)))
      · rw [show M1 84 19 = (n : Int) by rw [e1, if_neg (by omega)]; exact h19, w32_of (by omega) (by omega)]
        refine .put fun M2 e2 => go M1 M2 _ e1 e2 ?_
        rw [h21, show min (n - s) 3 = 3 by omega, show min (n + 1 - s) 3 = 3 by omega]
      · rw [if_neg (by omega)] at hy
        subst hy
        have dg := (srt_2 (u n)).mp hc
        have db := dec_bd (u := u) (s := s) (n - s) (by omega) (fun j hj => by
          have := (srt_2 (u ((s + j : Nat) : Int))).mp (hd (s + j) (by omega) (by omega))
          exact this)
        have h21' : M 84 21 = dec u s (n - s) := by rw [h21, show min (n - s) 3 = n - s by omega]
        rw [h21', w32_of (i := 10 * dec u s (n - s)) (by omega) (by omega), w32_of (i := 10 * dec u s (n - s) + u n) (by omega) (by omega), w32_of (i := 10 * dec u s (n - s) + u n - 48) (by omega) (by omega)]
        refine .put fun M1 e1 => ?_
        rw [show M1 84 19 = (n : Int) by rw [e1, if_neg (by omega)]; exact h19, w32_of (by omega) (by omega)]
        refine .put fun M2 e2 => go M1 M2 _ e1 e2 ?_
        rw [show min (n + 1 - s) 3 = n - s + 1 by omega, dec, show s + (n - s) = n by omega]
    · rw [if_neg hc] at hz
      have er : run u 2 (r + 1) n = n := by rw [run, if_neg hc]
      rw [er]
      exact .ifT hz (fin n M hs hn h17 h18 h19 h21)
theorem ad_K39 {u : Int → Int} {E p : Nat} (hE : E ≤ 600) (hp : p ≤ E) (M : Mem) (hb : Bu u E M) (h17 : M 84 17 = E) (h19 : M 84 19 = ts u E p) : Ok (f_X10_advance_K39 M) (fun M' => TM u E p M' ∧ FrTk M M') := by
  have a := ts_is u hp
  unfold f_X10_advance_K39
  rw [h19]
  refine .put fun M1 e1 => .put fun M2 e2 => ?_
  have g17 : M2 84 17 = E := by rw [e2, if_neg (by omega), e1, if_neg (by omega)]; exact h17
  have g18 : M2 84 18 = ts u E p := by rw [e2, if_neg (by omega), e1, if_pos ⟨rfl, rfl⟩]
  have g19 : M2 84 19 = ts u E p := by rw [e2, if_neg (by omega), e1, if_neg (by omega)]; exact h19
  have g21 : M2 84 21 = 0 := by rw [e2, if_pos ⟨rfl, rfl⟩]
  have gb : Bu u E M2 := bu_same hb (fun j => by rw [e2, if_neg (by omega), e1, if_neg (by omega)])
  have fr : FrTk M M2 := fun c i hc => by rw [e2, if_neg (by omega), e1, if_neg (by omega)]
  rw [g19]
  refine .bind (.val (mbyteAt_at hE g17 gb a.2.1)) (fun c hc => ?_)
  by_cases hs : ts u E p < E
  · rw [if_neg (by omega)] at hc
    subst hc
    have rg := srt_rng (u (ts u E p))
    have n1 : ¬ u (ts u E p) = -1 := fun e => by
      have hb0 := gb (ts u E p) hs
      omega
    refine .ifF n1 (.bind (.val (isLetter_at _ M2)) (fun z hz => ?_))
    by_cases k1 : srt (u (ts u E p)) = 1
    · rw [if_pos k1] at hz
      have et : te u E p = run u 1 (E - ts u E p) (ts u E p) := by unfold te; rw [if_neg (by omega), k1, if_neg (by decide), run_one hs k1]
      refine .ifF (by omega) ((ad_L81 hE (E - ts u E p) 4096 (ts u E p) M2 rfl (by omega) (Nat.le_refl _) (by omega) gb g17 g18 g19).mono (fun M' ⟨b1, b2, b3, b4, b5⟩ => ?_))
      rw [← et] at b3 b4
      have k : tk u E p = if (te u E p : Int) - ts u E p ≤ 7 then 1 else 6 := by unfold tk; rw [if_neg (by omega), k1]; rfl
      refine ⟨⟨b1, b2, b3, ?_, fun x => ?_⟩, fun c i hc => (b5 c i hc).trans (fr c i hc)⟩
      · unfold tkm
        rw [b4, k]
        split <;> rfl
      · rw [k] at x; split at x <;> omega
    · rw [if_neg k1] at hz
      refine .ifT hz (.bind (.val (isDigit_at _ M2)) (fun z hz => ?_))
      by_cases k2 : srt (u (ts u E p)) = 2
      · rw [if_pos k2] at hz
        have et : te u E p = run u 2 (E - ts u E p) (ts u E p) := by unfold te; rw [if_neg (by omega), k2, if_neg (by decide), run_one hs k2]
        refine .ifF (by omega) ((ad_L142 hE (E - ts u E p) 4096 (ts u E p) M2 rfl (by omega) (Nat.le_refl _) (by omega) (fun j j0 j1 => by omega) gb g17 g18 g19 (by rw [g21, Nat.sub_self]; rfl)).mono (fun M' ⟨b1, b2, b3, b4, b6, b5⟩ => ?_))
        rw [← et] at b3 b4 b6
        have k : tk u E p = if (te u E p : Int) - ts u E p ≤ 3 then 2 else 6 := by unfold tk; rw [if_neg (by omega), k2]; rfl
        refine ⟨⟨b1, b2, b3, ?_, fun x => ?_⟩, fun c i hc => (b5 c i hc).trans (fr c i hc)⟩
        · unfold tkm
          rw [b4, k]
          split <;> rfl
        · rw [k] at x
          split at x
          · rw [b6, show min (te u E p - ts u E p) 3 = te u E p - ts u E p by omega]
          · omega
      · rw [if_neg k2] at hz
        refine .ifT hz (.bind (.val (isSign_at _ M2)) (fun z hz => ?_))
        by_cases k4 : srt (u (ts u E p)) = 4
        · rw [if_pos k4] at hz
          have et : te u E p = run u 4 (E - ts u E p) (ts u E p) := by unfold te; rw [if_neg (by omega), k4, if_neg (by decide), run_one hs k4]
          refine .ifF (by omega) ((ad_L245 hE (E - ts u E p) 4096 (ts u E p) M2 rfl (by omega) (Nat.le_refl _) (by omega) gb g17 g18 g19).mono (fun M' ⟨b1, b2, b3, b4, b5⟩ => ?_))
          rw [← et] at b3 b4
          have tp := (te_is u hp).2.2 hs
          have k : tk u E p = if (te u E p : Int) - ts u E p ≤ 2 then 4 else 6 := by unfold tk; rw [if_neg (by omega), k4]; rfl
          refine ⟨⟨b1, b2, b3, ?_, fun x => ?_⟩, fun c i hc => (b5 c i hc).trans (fr c i hc)⟩
          · unfold tkm
            rw [b4, k]
            by_cases x2 : (te u E p : Int) - ts u E p ≤ 2
            · rw [if_pos x2, if_pos rfl]
              by_cases x1 : (te u E p : Int) - ts u E p = 1
              · rw [if_pos x1, if_pos x1]
              · rw [if_neg x1, if_neg x1, if_pos (by omega)]
            · rw [if_neg x2, if_neg (by omega), if_neg (by omega), if_neg (by decide)]
          · rw [k] at x; split at x <;> omega
        · rw [if_neg k4] at hz
          have n5 := a.2.2 hs
          have k36 : srt (u (ts u E p)) = 3 ∨ srt (u (ts u E p)) = 6 := by omega
          have hl : lng (srt (u (ts u E p))) = 1 := by rcases k36 with h | h <;> rw [h] <;> rfl
          have et : te u E p = ts u E p + 1 := by unfold te; rw [if_neg (by omega), hl, if_pos (by decide)]
          have k : tk u E p = srt (u (ts u E p)) := by unfold tk; rw [if_neg (by omega), hl, et, if_pos (by omega)]
          have km : tkm u E p = srt (u (ts u E p)) := by unfold tkm; rw [k, if_neg (by omega)]
          have s3 := srt_3 (u (ts u E p))
          rw [w32_of (by omega) (by omega)]
          have pt : ∀ (M3 M4 : Mem) (v : Int), (∀ b i, M3 b i = if b = 84 ∧ i = 19 then (ts u E p : Int) + 1 else M2 b i) → (∀ b i, M4 b i = if b = 84 ∧ i = 20 then v else M3 b i) → v = srt (u (ts u E p)) → TM u E p M4 ∧ FrTk M M4 := by
            intro M3 M4 v e3 e4 hv
            refine ⟨⟨?_, ?_, ?_, ?_, fun x => by omega⟩, fun c i hc => by rw [e4, if_neg (by omega), e3, if_neg (by omega)]; exact fr c i hc⟩
            · rw [e4, if_neg (by omega), e3, if_neg (by omega)]; exact g17
            · rw [e4, if_neg (by omega), e3, if_neg (by omega)]; exact g18
            · rw [e4, if_neg (by omega), e3, if_pos ⟨rfl, rfl⟩, et]; omega
            · rw [e4, if_pos ⟨rfl, rfl⟩, km, hv]
          refine .ifT hz (.put fun M3 e3 => .ifC (fun h59 => .put fun M4 e4 => .ret (pt M3 M4 3 e3 e4 (by omega))) (fun h59 => .put fun M4 e4 => .ret (pt M3 M4 6 e3 e4 (by omega))))
  · rw [if_pos (by omega)] at hc
    refine .ifT hc (.put fun M3 e3 => .ret ⟨⟨?_, ?_, ?_, ?_, fun x => ?_⟩, fun c i hc' => by rw [e3, if_neg (by omega)]; exact fr c i hc'⟩)
    · rw [e3, if_neg (by omega)]; exact g17
    · rw [e3, if_neg (by omega)]; exact g18
    · rw [e3, if_neg (by omega), g19]
      unfold te; rw [if_pos (by omega)]
    · rw [e3, if_pos ⟨rfl, rfl⟩]
      have k : tk u E p = 0 := by unfold tk; rw [if_pos (by omega)]
      unfold tkm; rw [k]; rfl
    · have k : tk u E p = 0 := by unfold tk; rw [if_pos (by omega)]
      omega
theorem ad_L0 {u : Int → Int} {E p : Nat} (hE : E ≤ 600) (hp : p ≤ E) : ∀ (r fuel n : Nat) (M : Mem), E - n = r → r < fuel → n ≤ E → skb u r n = ts u E p → Bu u E M → M 84 17 = E → M 84 19 = n → Ok (f_X10_advance_L0 fuel M) (fun M' => TM u E p M' ∧ FrTk M M') := by
  intro r
  induction r with
  | zero =>
    intro fuel n M hr hf hn hsk hb h17 h19
    obtain ⟨fuel, rfl⟩ : ∃ f, fuel = f + 1 := ⟨fuel - 1, by omega⟩
    have en : n = E := by omega
    rw [f_X10_advance_L0, h19]
    refine .bind (.val (mbyteAt_at hE h17 hb hn)) (fun y hy => .ifF (by rw [if_pos en] at hy; omega) (.bind (.val (mbyteAt_at hE h17 hb hn)) (fun y hy => .ifF (by rw [if_pos en] at hy; omega) ?_)))
    exact ad_K39 hE hp M hb h17 (by rw [h19, ← hsk]; rfl)
  | succ r ih =>
    intro fuel n M hr hf hn hsk hb h17 h19
    obtain ⟨fuel, rfl⟩ : ∃ f, fuel = f + 1 := ⟨fuel - 1, by omega⟩
    have s5 := srt_5 (u n)
    rw [f_X10_advance_L0, h19, w32_of (by omega) (by omega)]
    have go : srt (u n) = 5 → ∀ M1 : Mem, (∀ b i, M1 b i = if b = 84 ∧ i = 19 then (n : Int) + 1 else M b i) → Ok (f_X10_advance_L0 fuel M1) (fun M' => TM u E p M' ∧ FrTk M M') := by
      intro hc M1 e1
      have es : skb u (r + 1) n = skb u r (n + 1) := by rw [skb, if_pos hc]
      refine (ih fuel (n + 1) M1 (by omega) (by omega) (by omega) (by rw [← es]; exact hsk) (bu_same hb (fun j => by rw [e1, if_neg (by omega)])) (by rw [e1, if_neg (by omega)]; exact h17) (by rw [e1, if_pos ⟨rfl, rfl⟩]; omega)).mono (fun M' ⟨a, b⟩ => ⟨a, fun c i hc' => by rw [b c i hc', e1, if_neg (by omega)]⟩)
    refine .bind (.val (mbyteAt_at hE h17 hb hn)) (fun y hy => ?_)
    rw [if_neg (by omega)] at hy
    refine .ifC (fun h32 => .put fun M1 e1 => go (by omega) M1 e1) (fun h32 => .bind (.val (mbyteAt_at hE h17 hb hn)) (fun z hz => ?_))
    rw [if_neg (by omega)] at hz
    refine .ifC (fun h10 => .put fun M1 e1 => go (by omega) M1 e1) (fun h10 => ?_)
    have es : skb u (r + 1) n = n := by rw [skb, if_neg (by omega)]
    exact ad_K39 hE hp M hb h17 (by rw [h19, ← hsk, es])
theorem m_advance {u : Int → Int} {E p : Nat} (hE : E ≤ 600) (hp : p ≤ E) (M : Mem) (hb : Bu u E M) (h17 : M 84 17 = E) (h19 : M 84 19 = p) : Ok (f_X10_advance M) (fun M' => TM u E p M' ∧ FrTk M M') := by
  unfold f_X10_advance
  exact ad_L0 hE hp (E - p) 4096 p M rfl (by omega) hp rfl hb h17 h19
/-! words -/
/-- the token at p is this word -/
def wis (u : Int → Int) (E p o : Nat) : Prop := tk u E p = 1 ∧ (te u E p : Int) - ts u E p = slen o ∧ ∀ i : Nat, (i : Int) < slen o → u ((ts u E p + i : Nat) : Int) = sch o i
theorem slen_ge (o : Nat) : 0 ≤ slen o := by unfold slen; omega
theorem c_isWord_L {u : Int → Int} {E p o : Nat} (hE : E ≤ 600) (hp : p ≤ E) {M : Mem} (hu : ∀ j : Nat, j < E → M 2 j = u j) (hT : TC u E p M) (hl : (te u E p : Int) - ts u E p = slen o) : ∀ (r fuel n : Nat), (slen o).toNat - n = r → r < fuel → (n : Int) ≤ slen o → (∀ i : Nat, i < n → u ((ts u E p + i : Nat) : Int) = sch o i) → Ok (f_X8_isWord_L28 fuel o n M) (fun z => (z = 1 ∧ ∀ i : Nat, (i : Int) < slen o → u ((ts u E p + i : Nat) : Int) = sch o i) ∨ (z = 0 ∧ ¬ ∀ i : Nat, (i : Int) < slen o → u ((ts u E p + i : Nat) : Int) = sch o i)) := by
  have tei := te_is u hp
  intro r
  induction r with
  | zero =>
    intro fuel n hr hf hn hq
    obtain ⟨fuel, rfl⟩ : ∃ f, fuel = f + 1 := ⟨fuel - 1, by omega⟩
    rw [f_X8_isWord_L28]
    exact .ifT (by omega) (.ret (Or.inl ⟨rfl, fun i hi => hq i (by omega)⟩))
  | succ r ih =>
    intro fuel n hr hf hn hq
    obtain ⟨fuel, rfl⟩ : ∃ f, fuel = f + 1 := ⟨fuel - 1, by omega⟩
    rw [f_X8_isWord_L28, hT.2.1, w32_of (i := (ts u E p : Int) + (n : Int)) (by omega) (by omega)]
    refine .ifF (by omega) (.bind (.val (ibyteAt_ok _ M)) (fun y hy => .ifT (by omega) ?_))
    rw [if_pos (by omega), show (ts u E p : Int) + (n : Int) = ((ts u E p + n : Nat) : Int) by omega, hu _ (by omega)] at hy
    subst hy
    refine .ifC (fun hc => .let fun v ev => ?_) (fun hc => .ret (Or.inr ⟨rfl, fun x => hc (x n (by omega))⟩))
    rw [w32_of (by omega) (by omega)] at ev
    have ev2 : v = ((n + 1 : Nat) : Int) := by omega
    subst ev2
    refine ih fuel (n + 1) (by omega) (by omega) (by omega) (fun i hi => ?_)
    by_cases e : i = n
    · rw [e]; exact hc
    · exact hq i (by omega)
theorem c_isWord {u : Int → Int} {E p o : Nat} (hE : E ≤ 600) (hp : p ≤ E) {M : Mem} (hu : ∀ j : Nat, j < E → M 2 j = u j) (hT : TC u E p M) : Ok (f_X8_isWord o M) (fun z => (z = 1 ∧ wis u E p o) ∨ (z = 0 ∧ ¬ wis u E p o)) := by
  have tei := te_is u hp
  unfold f_X8_isWord wis
  rw [hT.2.2.2, hT.2.2.1, hT.2.1, w32_of (by omega) (by omega)]
  refine .ifC (fun h1 => .ifC (fun h2 => ?_) (fun h2 => .ret (Or.inr ⟨rfl, fun x => h2 x.2.1⟩))) (fun h1 => .ret (Or.inr ⟨rfl, fun x => h1 x.1⟩))
  have sg := slen_ge o
  refine (c_isWord_L hE hp hu hT h2 (slen o).toNat 4096 0 (by omega) (by omega) sg (fun i hi => by omega)).mono (fun z hz => ?_)
  rcases hz with ⟨a, b⟩ | ⟨a, b⟩
  · exact Or.inl ⟨a, h1, h2, b⟩
  · exact Or.inr ⟨a, fun x => b x.2.2⟩
theorem m_isWord_L {u : Int → Int} {E p o : Nat} (hE : E ≤ 600) (hp : p ≤ E) (hb : ∀ j : Nat, j < E → 0 ≤ u j ∧ u j < 256) {M : Mem} (hu : Bu u E M) (hr2 : ∀ j : Nat, j < E → -128 ≤ M 91 j ∧ M 91 j < 128) (hT : TM u E p M) (hso : slen o ≤ 20) (hsc : ∀ i : Nat, (i : Int) < slen o → 0 ≤ sch o i ∧ sch o i < 128) : ∀ (r fuel n : Nat) (v2 : Int), (slen o).toNat - n = r → r < fuel → (n : Int) ≤ slen o → ((v2 = 1 ∧ (te u E p : Int) - ts u E p = slen o ∧ ∀ i : Nat, i < n → u ((ts u E p + i : Nat) : Int) = sch o i) ∨ (v2 = 0 ∧ ¬ ((te u E p : Int) - ts u E p = slen o ∧ ∀ i : Nat, (i : Int) < slen o → u ((ts u E p + i : Nat) : Int) = sch o i))) → Ok (f_X10_isWord_L32 fuel o v2 n M) (fun z => (z = 1 ∧ (te u E p : Int) - ts u E p = slen o ∧ ∀ i : Nat, (i : Int) < slen o → u ((ts u E p + i : Nat) : Int) = sch o i) ∨ (z = 0 ∧ ¬ ((te u E p : Int) - ts u E p = slen o ∧ ∀ i : Nat, (i : Int) < slen o → u ((ts u E p + i : Nat) : Int) = sch o i))) := by
  have tei := te_is u hp
  intro r
  induction r with
  | zero =>
    intro fuel n v2 hr hf hn hq
    obtain ⟨fuel, rfl⟩ : ∃ f, fuel = f + 1 := ⟨fuel - 1, by omega⟩
    rw [f_X10_isWord_L32]
    refine .ifT (by omega) (.ifT (by rcases hq with h | h <;> omega) (.ret ?_))
    rcases hq with ⟨a, b, c⟩ | h
    · exact Or.inl ⟨a, b, fun i hi => c i (by omega)⟩
    · exact Or.inr h
  | succ r ih =>
    intro fuel n v2 hr hf hn hq
    obtain ⟨fuel, rfl⟩ : ∃ f, fuel = f + 1 := ⟨fuel - 1, by omega⟩
    rw [f_X10_isWord_L32]
    refine .ifF (by omega) ?_
    rcases hq with ⟨a, b, c⟩ | ⟨a, b⟩
    · rw [hT.2.1, w32_of (i := (ts u E p : Int) + (n : Int)) (by omega) (by omega), show (ts u E p : Int) + (n : Int) = ((ts u E p + n : Nat) : Int) by omega]
      refine .ifF (by omega) (.ifT (by omega) (.ifT (by omega) ?_))
      have h1 := hu (ts u E p + n) (by omega)
      have h2 := hr2 (ts u E p + n) (by omega)
      have h3 := hsc n (by omega)
      have h4 := hb (ts u E p + n) (by omega)
      refine .ifC (fun hc => .let fun v ev => ?_) (fun hc => .let fun v ev => ?_)
      · rw [w32_of (by omega) (by omega)] at ev
        have ev2 : v = ((n + 1 : Nat) : Int) := by omega
        subst ev2
        refine ih fuel (n + 1) 1 (by omega) (by omega) (by omega) (Or.inl ⟨rfl, b, fun i hi => ?_⟩)
        by_cases e : i = n
        · rw [e]; omega
        · exact c i (by omega)
      · rw [w32_of (by omega) (by omega)] at ev
        have ev2 : v = ((n + 1 : Nat) : Int) := by omega
        subst ev2
        refine ih fuel (n + 1) 0 (by omega) (by omega) (by omega) (Or.inr ⟨rfl, fun x => ?_⟩)
        have := x.2 n (by omega)
        omega
    · refine .ifT a (.ifT (Or.inl a) (.ret (Or.inr ⟨a, b⟩)))
theorem m_isWord {u : Int → Int} {E p o : Nat} (hE : E ≤ 600) (hp : p ≤ E) (hb : ∀ j : Nat, j < E → 0 ≤ u j ∧ u j < 256) {M : Mem} (hu : Bu u E M) (hr2 : ∀ j : Nat, j < E → -128 ≤ M 91 j ∧ M 91 j < 128) (hT : TM u E p M) (hso : 1 ≤ slen o ∧ slen o ≤ 20) (hsc : ∀ i : Nat, (i : Int) < slen o → 0 ≤ sch o i ∧ sch o i < 128) : Ok (f_X10_isWord o M) (fun z => (z = 1 ∧ wis u E p o) ∨ (z = 0 ∧ ¬ wis u E p o)) := by
  have tei := te_is u hp
  have km : tkm u E p = 1 ↔ tk u E p = 1 := by unfold tkm; split <;> (try split) <;> omega
  unfold f_X10_isWord wis
  rw [hT.2.2.2.1, hT.2.2.1, hT.2.1, w32_of (by omega) (by omega)]
  have no : ∀ z : Int, ¬ (tk u E p = 1 ∧ (te u E p : Int) - ts u E p = slen o) → z = 0 → (z = 1 ∧ tk u E p = 1 ∧ (te u E p : Int) - ts u E p = slen o ∧ ∀ i : Nat, (i : Int) < slen o → u ((ts u E p + i : Nat) : Int) = sch o i) ∨ (z = 0 ∧ ¬ (tk u E p = 1 ∧ (te u E p : Int) - ts u E p = slen o ∧ ∀ i : Nat, (i : Int) < slen o → u ((ts u E p + i : Nat) : Int) = sch o i)) := fun z h hz => Or.inr ⟨hz, fun x => h ⟨x.1, x.2.1⟩⟩
  have zero : ∀ x, ¬ (tk u E p = 1 ∧ (te u E p : Int) - ts u E p = slen o) → x = (0 : Int) → Ok (f_X10_isWord_L32 4096 o x 0 M) (fun z => (z = 1 ∧ tk u E p = 1 ∧ (te u E p : Int) - ts u E p = slen o ∧ ∀ i : Nat, (i : Int) < slen o → u ((ts u E p + i : Nat) : Int) = sch o i) ∨ (z = 0 ∧ ¬ (tk u E p = 1 ∧ (te u E p : Int) - ts u E p = slen o ∧ ∀ i : Nat, (i : Int) < slen o → u ((ts u E p + i : Nat) : Int) = sch o i))) := by
    intro x h hx
    subst hx
    rw [show (4096 : Nat) = 4095 + 1 from rfl, f_X10_isWord_L32]
    exact .ifF (by omega) (.ifT rfl (.ifT (Or.inl rfl) (.ret (no 0 h rfl))))
  refine .ifC (fun h1 => .ifC (fun h2 => ?_) (fun h2 => zero 0 (fun x => h2 x.2) rfl)) (fun h1 => zero 0 (fun x => h1 (km.mpr x.1)) rfl)
  refine (m_isWord_L hE hp hb hu hr2 hT hso.2 hsc (slen o).toNat 4096 0 1 (by omega) (by omega) (by omega) (Or.inl ⟨rfl, h2, fun i hi => by omega⟩)).mono (fun z hz => ?_)
  rcases hz with ⟨a, b, c⟩ | ⟨a, b⟩
  · exact Or.inl ⟨a, km.mp h1, b, c⟩
  · exact Or.inr ⟨a, fun x => b x.2⟩
