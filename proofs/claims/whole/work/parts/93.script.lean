/-! ===== a script is parsed ===== -/
def ScC (u : Int → Int) (E p : Nat) (M : Mem) : Prop := TC u E p M ∧ ∀ j : Nat, j < E → M 2 j = u j
def ScM (u : Int → Int) (E p : Nat) (M : Mem) : Prop := TM u E p M ∧ Bt u E M ∧ M 84 22 = 0 ∧ M 84 23 = -1
def QR (n : Nat) (Ma Mb : Mem) : Prop := ∀ i : Nat, i < n → 0 ≤ Ma 9 i ∧ Ma 9 i ≤ 5 ∧ Mb 105 i = Ma 9 i ∧ ∀ j : Nat, j < nm (Ma 9 i) → 0 ≤ Ma 10 ((3 * i + j : Nat) : Int) ∧ Ma 10 ((3 * i + j : Nat) : Int) ≤ 999 ∧ Mb (106 + j) i = Ma 10 ((3 * i + j : Nat) : Int)
theorem BadP.pre {Mc Mm M1 M2 : Mem} {a b : Int × Mem} (h : BadP M1 M2 a b) (hc : FrPc Mc M1) (hm : FrPm Mm M2) : BadP Mc Mm a b := by
  obtain ⟨x1, x2, x3, x4, x5, x6, x7⟩ := h
  exact ⟨x1, x2, x3, x4, x5, hc.trans x6, hm.trans x7⟩
theorem wd_220 : WdE 220 234 ∧ WdE 221 235 ∧ WdE 222 236 ∧ WdE 223 237 ∧ WdE 224 238 ∧ WdE 225 239 := by unfold WdE; decide +kernel
theorem sl_220 : slen 220 = 5 ∧ slen 221 = 3 ∧ slen 222 = 4 ∧ slen 223 = 4 ∧ slen 224 = 6 ∧ slen 225 = 4 := by decide +kernel
theorem p_semi2 {u : Int → Int} {E p : Nat} {Mc Mm : Mem} (hE : E ≤ 600) (hp : p ≤ E) (hC : ScC u E p Mc) (hM : ScM u E p Mm) : Both (f_X8_passSemicolon Mc) (f_X10_semicolon Mm) (fun a b => (a.1 = 0 ∧ b.1 = 1 ∧ p < te u E p ∧ te u E p ≤ E ∧ ScC u E (te u E p) a.2 ∧ ScM u E (te u E p) b.2 ∧ Fr3o Mc a.2 ∧ FrTk Mm b.2) ∨ BadP Mc Mm a b) := by
  have t := te_is u hp
  have s := ts_is u hp
  have km : tkm u E p = 3 ↔ tk u E p = 3 := by unfold tkm; split <;> (try split) <;> omega
  obtain ⟨m1, m2, m3, m4⟩ := hM
  obtain ⟨c1, c2⟩ := hC
  unfold f_X8_passSemicolon f_X10_semicolon
  by_cases h : tk u E p = 3
  · have ti := tk_is u hp h (by decide) (by decide)
    refine .lT (by rw [c1.2.2.2]; exact h) (.rT (by rw [m1.2.2.2.1]; exact km.mpr h) ?_)
    refine Both.of (P := fun a => a.1 = 0 ∧ ScC u E (te u E p) a.2 ∧ Fr3o Mc a.2) (Q := fun b => b.1 = 1 ∧ ScM u E (te u E p) b.2 ∧ FrTk Mm b.2) (.bind (c_moveOn hE t.2.1 Mc c2 c1.1 c1.2.2.1) (fun M1 ⟨a, b⟩ => .ret ⟨rfl, ⟨a, fun j hj => (b 2 j (by omega)).trans (c2 j hj)⟩, b⟩)) (fl_ok ((starts_go 1 (m_advance hE t.2.1 Mm m2.1 m1.1 m1.2.2.1)).mono (fun b ⟨b1, b2, b3⟩ => ⟨b1, ⟨b2, m2.same (fun j => b3 91 j (by omega)), (b3 84 22 (by omega)).trans m3, (b3 84 23 (by omega)).trans m4⟩, b3⟩)) (fun b hb => Or.inr hb.1)) (fun a b ⟨a1, a2, a3⟩ ⟨b1, b2, b3⟩ => Or.inl ⟨a1, b1, by omega, t.2.1, a2, b2, a3, b3⟩)
  · refine .lF (by rw [c1.2.2.2]; exact h) (.rF (by rw [m1.2.2.2.1]; exact fun x => h (km.mp x)) ?_)
    refine Both.of (P := fun a => a = ((1 : Int), Mc)) (.ret rfl) (fl_ok (starts_no 1 m3) (fun b hb => Or.inl hb.1)) (fun a b ha ⟨b1, b2, b3, b4⟩ => Or.inr ?_)
    subst ha
    exact ⟨by show (1 : Int) ≤ 1; decide, by show (1 : Int) ≤ 4; decide, b1, b2, by show b.2 84 23 = Mc 3 2; rw [b3, m1.2.1, c1.2.1], FrPc.rf, fun c i hc => b4 c i (fun x => hc (by unfold PMz; omega))⟩
theorem numbersOf_at (v : Int) (M : Mem) : f_X3_numbersOf v M = some ((nm v : Nat) : Int) := by
  unfold f_X3_numbersOf nm
  by_cases h3 : v = 3
  · rw [if_pos h3, if_pos h3]; rfl
  · by_cases h4 : v = 4
    · rw [if_neg h3, if_pos h4, if_neg h3, if_pos h4]; rfl
    · by_cases h5 : v = 5
      · rw [if_neg h3, if_neg h4, if_pos h5, if_neg h3, if_neg h4, if_pos h5]; rfl
      · rw [if_neg h3, if_neg h4, if_neg h5, if_neg h3, if_neg h4, if_neg h5]; rfl
theorem nm_le (v : Int) : nm v ≤ 3 := by unfold nm; split <;> (try split) <;> (try split) <;> omega
/-- what an order's reading leaves -/
def GoodN (u : Int → Int) (E q n cnt : Nat) (Ma Mb : Mem) (a b : Int × Mem) : Prop := a.1 = 0 ∧ b.1 = 1 ∧ (∃ p' : Nat, q ≤ p' ∧ p' ≤ E ∧ ScC u E p' a.2 ∧ ScM u E p' b.2) ∧ (∀ j : Nat, j < cnt → 0 ≤ a.2 10 ((3 * n + j : Nat) : Int) ∧ a.2 10 ((3 * n + j : Nat) : Int) ≤ 999 ∧ b.2 (106 + j) n = a.2 10 ((3 * n + j : Nat) : Int)) ∧ b.2 84 40 = n + 1 ∧ (∀ c i, c ≠ 3 → ¬ (c = 10 ∧ 3 * (n : Int) ≤ i ∧ i ≤ 3 * n + 2) → a.2 c i = Ma c i) ∧ ∀ (c : Nat) (i : Int), ¬ (c = 84 ∧ ((18 ≤ i ∧ i ≤ 21) ∨ i = 24 ∨ i = 40)) → ¬ (106 ≤ c ∧ c ≤ 108 ∧ i = n) → b.2 c i = Mb c i
theorem num_L {u : Int → Int} {E n : Nat} (hE : E ≤ 600) (hn : n < 100) (v : Int) : ∀ (r fc fm k p : Nat) (Ma Mb : Mem), nm v - k = r → r < fc → r < fm → k ≤ nm v → p ≤ E → ScC u E p Ma → ScM u E p Mb → Mb 84 40 = n → (∀ j : Nat, j < k → 0 ≤ Ma 10 ((3 * n + j : Nat) : Int) ∧ Ma 10 ((3 * n + j : Nat) : Int) ≤ 999 ∧ Mb (106 + j) n = Ma 10 ((3 * n + j : Nat) : Int)) → Both (f_X3_parseStatement_L36 fc n v k Ma) (f_X10_readCommand_L150 fm n (nm v : Nat) k Mb) (fun a b => GoodN u E (p + r + 1) n (nm v) Ma Mb a b ∨ BadP Ma Mb a b) := by
  have c3 := nm_le v
  intro r
  induction r with
  | zero =>
    intro fc fm k p Ma Mb hr hfc hfm hk hp hC hM h40 hq
    obtain ⟨fc, rfl⟩ : ∃ f, fc = f + 1 := ⟨fc - 1, by omega⟩
    obtain ⟨fm, rfl⟩ : ∃ f, fm = f + 1 := ⟨fm - 1, by omega⟩
    have ek : k = nm v := by omega
    rw [f_X3_parseStatement_L36, f_X10_readCommand_L150]
    refine .vl (numbersOf_at v Ma) rfl (.lT (by omega) (.rT (by omega) ?_))
    unfold f_X10_readCommand_K249
    rw [h40, w32_of (by omega) (by omega)]
    refine .pr fun M1 e1 => ?_
    obtain ⟨m1, m2, m3, m4⟩ := hM
    have hM1 : ScM u E p M1 := by
      refine ⟨?_, m2.same (fun j => by rw [e1, if_neg (by omega)]), by rw [e1, if_neg (by omega)]; exact m3, by rw [e1, if_neg (by omega)]; exact m4⟩
      unfold TM at m1 ⊢
      rw [e1, if_neg (by omega), e1, if_neg (by omega), e1, if_neg (by omega), e1, if_neg (by omega), e1, if_neg (by omega)]
      exact m1
    obtain ⟨a, b, ea, eb, hab⟩ := p_semi2 hE hp hC hM1
    refine ⟨a, b, by rw [ea]; rfl, ?_, ?_⟩
    · rw [eb]
      refine if_pos ?_
      rcases hab with h | h
      · exact Or.inr h.2.1
      · exact Or.inl h.2.2.1
    · rcases hab with ⟨x1, x2, x3, x4, x5, x6, x7, x8⟩ | h
      · refine Or.inl ⟨x1, x2, ⟨te u E p, by omega, x4, x5, x6⟩, fun j hj => ?_, ?_, fun c i h3 _ => x7 c i h3, fun c i hc _ => ?_⟩
        · have hj2 := hq j (by omega)
          rw [x7 10 _ (by omega), x8 (106 + j) n (by omega), e1, if_neg (by omega)]
          exact hj2
        · rw [x8 84 40 (by omega), e1, if_pos ⟨rfl, rfl⟩]
        · rw [x8 c i (by omega), e1, if_neg (by omega)]
      · exact Or.inr (h.pre FrPc.rf (fun c i hc => by unfold PMz at hc; rw [e1, if_neg (by omega)]))
  | succ r ih =>
    intro fc fm k p Ma Mb hr hfc hfm hk hp hC hM h40 hq
    obtain ⟨fc, rfl⟩ : ∃ f, fc = f + 1 := ⟨fc - 1, by omega⟩
    obtain ⟨fm, rfl⟩ : ∃ f, fm = f + 1 := ⟨fm - 1, by omega⟩
    obtain ⟨m1, m2, m3, m4⟩ := hM
    obtain ⟨c1, c2⟩ := hC
    rw [f_X3_parseStatement_L36, f_X10_readCommand_L150]
    refine .vl (numbersOf_at v Ma) rfl (.lF (by omega) (.lF (by omega) (.rF (by omega) (.bind (p_num hE hp 0 999 (by omega) c2 c1 m1 m2 m3) (fun a b hab => .ll ?_)))))
    rcases hab with ⟨x1, x2, x3, x4, x5, x6, x7, x8, x9, x10⟩ | ⟨x1, x2, x3, x4, x5, x6, x7⟩
    · rw [w32_of (i := (n : Int) * 3) (by omega) (by omega), w32_of (i := (n : Int) * 3 + k) (by omega) (by omega)]
      refine .lT x1 (.lT (by omega) (.pl fun M1 e1 => .ll (.rF (by omega) ?_)))
      rw [w32_of (i := (k : Int) + 1) (by omega) (by omega)]
      have step : ∀ M2 : Mem, (∀ c i, M2 c i = if c = 106 + k ∧ i = n then a.1 else b.2 c i) → Both (f_X3_parseStatement_L36 fc n v ((k : Int) + 1) M1) (f_X10_readCommand_L150 fm n (nm v : Nat) ((k : Int) + 1) M2) (fun a b => GoodN u E (p + (r + 1) + 1) n (nm v) Ma Mb a b ∨ BadP Ma Mb a b) := by
        intro M2 e2
        have o1 : ∀ c i, c ≠ 3 → ¬ (c = 10 ∧ i = (n : Int) * 3 + k) → M1 c i = Ma c i := fun c i h h' => by rw [e1, if_neg h']; exact x9 c i h
        have o2 : ∀ (c : Nat) (i : Int), ¬ (c = 84 ∧ ((18 ≤ i ∧ i ≤ 21) ∨ i = 24)) → ¬ (c = 106 + k ∧ i = n) → M2 c i = Mb c i := fun c i h h' => by rw [e2, if_neg h']; exact x10 c i h
        have hC1 : ScC u E (te u E p) M1 := by
          refine ⟨?_, fun j hj => (o1 2 j (by omega) (by omega)).trans (c2 j hj)⟩
          unfold TC at x6 ⊢
          rw [e1, if_neg (by omega), e1, if_neg (by omega), e1, if_neg (by omega), e1, if_neg (by omega)]
          exact x6
        have hM2 : ScM u E (te u E p) M2 := by
          refine ⟨?_, m2.same (fun j => o2 91 j (by omega) (by omega)), (o2 84 22 (by omega) (by omega)).trans m3, (o2 84 23 (by omega) (by omega)).trans m4⟩
          unfold TM at x7 ⊢
          rw [e2, if_neg (by omega), e2, if_neg (by omega), e2, if_neg (by omega), e2, if_neg (by omega), e2, if_neg (by omega)]
          exact x7
        refine (ih fc fm (k + 1) (te u E p) M1 M2 (by omega) (by omega) (by omega) (by omega) x5 hC1 hM2 ((o2 84 40 (by omega) (by omega)).trans h40) (fun j hj => ?_)).mono (fun a' b' hab' => ?_)
        · by_cases e : j = k
          · subst e
            rw [e1, if_pos ⟨rfl, by omega⟩, e2, if_pos ⟨rfl, rfl⟩]
            exact ⟨x1, x2, rfl⟩
          · rw [o1 10 _ (by omega) (by omega), o2 (106 + j) n (by omega) (by omega)]
            exact hq j (by omega)
        · rcases hab' with ⟨y1, y2, ⟨p', y3, y4, y5, y6⟩, y7, y8, y9, y10⟩ | h
          · refine Or.inl ⟨y1, y2, ⟨p', by omega, y4, y5, y6⟩, y7, y8, fun c i h3 h10 => ?_, fun c i h84 h106 => ?_⟩
            · rw [y9 c i h3 h10, o1 c i h3 (by omega)]
            · rw [y10 c i h84 h106, o2 c i (by omega) (by omega)]
          · exact Or.inr (h.pre (fun c i hc => o1 c i (by omega) (by omega)) (fun c i hc => by unfold PMz at hc; exact o2 c i (by omega) (by omega)))
      have ks : k = 0 ∨ k = 1 ∨ k = 2 := by omega
      rcases ks with rfl | rfl | rfl
      · refine .rT rfl (.rT (by omega) (.pr fun N1 f1 => .rF (by decide) (.pr fun N2 f2 => .rF (by decide) (.pr fun N3 f3 => .rl (step N3 (fun c i => ?_))))))
        rw [f3, f2, f2, f1, f1, f1, x8]
        by_cases g8 : c = 108 ∧ i = n
        · rw [if_pos g8, if_neg (by omega), if_neg (by omega), if_neg (by omega), g8.1, g8.2]
        · rw [if_neg g8]
          by_cases g7 : c = 107 ∧ i = n
          · rw [if_pos g7, if_neg (by omega), if_neg (by omega), g7.1, g7.2]
          · rw [if_neg g7]
      · refine .rF (by decide) (.rT (by omega) (.pr fun N1 f1 => .rT rfl (.pr fun N2 f2 => .rF (by decide) (.pr fun N3 f3 => .rl (step N3 (fun c i => ?_))))))
        have g24 : N1 84 24 = a.1 := by rw [f1, if_neg (by omega)]; exact x8
        rw [f3, f2, f2, g24, f1, f1]
        by_cases g8 : c = 108 ∧ i = n
        · rw [if_pos g8, if_neg (by omega), if_neg (by omega), if_neg (by omega), g8.1, g8.2]
        · rw [if_neg g8]
          by_cases g7 : c = 107 ∧ i = n
          · rw [if_pos g7, if_pos (by omega)]
          · rw [if_neg g7, if_neg (c := c = 106 + 1 ∧ i = n) (by omega)]
            by_cases g6 : c = 106 ∧ i = n
            · rw [if_pos g6, g6.1, g6.2]
            · rw [if_neg g6]
      · refine .rF (by decide) (.rT (by omega) (.pr fun N1 f1 => .rF (by decide) (.pr fun N2 f2 => .rT rfl (.pr fun N3 f3 => .rl (step N3 (fun c i => ?_))))))
        have g24 : N2 84 24 = a.1 := by rw [f2, if_neg (by omega), f1, if_neg (by omega)]; exact x8
        rw [f3, g24]
        by_cases g8 : c = 108 ∧ i = n
        · rw [if_pos g8, if_pos (by omega)]
        · rw [if_neg g8, if_neg (c := c = 106 + 2 ∧ i = n) (by omega), f2, f1, f1]
          by_cases g7 : c = 107 ∧ i = n
          · rw [if_pos g7, if_neg (by omega), g7.1, g7.2]
          · rw [if_neg g7]
            by_cases g6 : c = 106 ∧ i = n
            · rw [if_pos g6, g6.1, g6.2]
            · rw [if_neg g6]
    · refine .lF (by omega) (.rT x4 (.ret (Or.inr ?_)))
      rw [w32_of (by omega) (by omega), x3]
      exact ⟨by show 1 ≤ -a.1; omega, by show -a.1 ≤ 4; omega, rfl, x5, x6, FrPc.rf, fun c i hc => x7 c i (by unfold PMz at hc; omega)⟩
/-! a whole order -/
def nVerb (n : Nat) (v : Int) (M : Mem) : Option (Int × Mem) := (f_X10_starts 1 1 M).bind fun p103 => if p103.1 = 0 then some (0, p103.2) else if (0 : Int) ≤ n ∧ (n : Int) < 200 then lt1 (up p103.2 105 n v) fun M117 => f_X10_readCommand_L150 4096 n (nm v : Nat) 0 M117 else none
theorem p_verb {u : Int → Int} {E p n : Nat} {Mc Mm : Mem} (hE : E ≤ 600) (hp : p ≤ E) (hC : ScC u E p Mc) (hM : ScM u E p Mm) (h40 : Mm 84 40 = n) : ∃ v : Int, f_X3_verbIn Mc = some v ∧ ((v = -1 ∧ Ok (f_X10_readCommand Mm) (fun b => b.1 = 0 ∧ b.2 84 22 = 1 ∧ b.2 84 23 = Mm 84 18 ∧ ∀ c i, ¬ (c = 84 ∧ (i = 22 ∨ i = 23)) → b.2 c i = Mm c i)) ∨ (0 ≤ v ∧ v ≤ 5 ∧ 5 ≤ (te u E p : Int) - ts u E p + nm v ∧ f_X10_readCommand Mm = nVerb n v Mm)) := by
  obtain ⟨a1, b1, ea1, eb1, h1⟩ := p_word hE hp wd_220.1 hC.2 hC.1 hM.1 hM.2.1
  obtain ⟨a2, b2, ea2, eb2, h2⟩ := p_word hE hp wd_220.2.1 hC.2 hC.1 hM.1 hM.2.1
  obtain ⟨a3, b3, ea3, eb3, h3⟩ := p_word hE hp wd_220.2.2.1 hC.2 hC.1 hM.1 hM.2.1
  obtain ⟨a4, b4, ea4, eb4, h4⟩ := p_word hE hp wd_220.2.2.2.1 hC.2 hC.1 hM.1 hM.2.1
  obtain ⟨a5, b5, ea5, eb5, h5⟩ := p_word hE hp wd_220.2.2.2.2.1 hC.2 hC.1 hM.1 hM.2.1
  obtain ⟨a6, b6, ea6, eb6, h6⟩ := p_word hE hp wd_220.2.2.2.2.2 hC.2 hC.1 hM.1 hM.2.1
  obtain ⟨s1, s2, s3, s4, s5, s6⟩ := sl_220
  unfold f_X3_verbIn f_X10_readCommand
  rw [h40, lts, ea1, eb1, obs, obs]
  rcases h1 with ⟨x, y, w⟩ | ⟨x, y, _⟩
  · rw [if_neg (by omega), if_neg (by omega)]
    refine ⟨0, rfl, Or.inr ⟨by decide, by decide, ?_, rfl⟩⟩
    have := w.2.1
    have e : nm 0 = 2 := by decide
    omega
  rw [if_pos x, if_pos y, ea2, eb2, obs, obs]
  rcases h2 with ⟨x, y, w⟩ | ⟨x, y, _⟩
  · rw [if_neg (by omega), if_neg (by omega)]
    refine ⟨1, rfl, Or.inr ⟨by decide, by decide, ?_, rfl⟩⟩
    have := w.2.1
    have e : nm 1 = 2 := by decide
    omega
  rw [if_pos x, if_pos y, ea3, eb3, obs, obs]
  rcases h3 with ⟨x, y, w⟩ | ⟨x, y, _⟩
  · rw [if_neg (by omega), if_neg (by omega)]
    refine ⟨2, rfl, Or.inr ⟨by decide, by decide, ?_, rfl⟩⟩
    have := w.2.1
    have e : nm 2 = 2 := by decide
    omega
  rw [if_pos x, if_pos y, ea4, eb4, obs, obs]
  rcases h4 with ⟨x, y, w⟩ | ⟨x, y, _⟩
  · rw [if_neg (by omega), if_neg (by omega)]
    refine ⟨3, rfl, Or.inr ⟨by decide, by decide, ?_, rfl⟩⟩
    have := w.2.1
    have e : nm 3 = 3 := by decide
    omega
  rw [if_pos x, if_pos y, ea5, eb5, obs, obs]
  rcases h5 with ⟨x, y, w⟩ | ⟨x, y, _⟩
  · rw [if_neg (by omega), if_neg (by omega)]
    refine ⟨4, rfl, Or.inr ⟨by decide, by decide, ?_, rfl⟩⟩
    have := w.2.1
    have e : nm 4 = 0 := by decide
    omega
  rw [if_pos x, if_pos y, ea6, eb6, obs, obs]
  rcases h6 with ⟨x, y, w⟩ | ⟨x, y, _⟩
  · rw [if_neg (by omega), if_neg (by omega)]
    refine ⟨5, rfl, Or.inr ⟨by decide, by decide, ?_, rfl⟩⟩
    have := w.2.1
    have e : nm 5 = 1 := by decide
    omega
  rw [if_pos x, if_pos y]
  exact ⟨-1, rfl, Or.inl ⟨rfl, .bind (starts_no 1 hM.2.2.1) (fun b ⟨h1, h2, h3, h4⟩ => .ifT h1 (.ret ⟨rfl, h2, h3, h4⟩))⟩⟩
theorem p_cmd {u : Int → Int} {E p n : Nat} {Mc Mm : Mem} (hE : E ≤ 600) (hp : p ≤ E) (hn : n < 100) (hC : ScC u E p Mc) (hM : ScM u E p Mm) (h40 : Mm 84 40 = n) (hq : QR n Mc Mm) : Both (f_X3_parseStatement n Mc) (f_X10_readCommand Mm) (fun a b => (a.1 = 0 ∧ b.1 = 1 ∧ (∃ p' : Nat, p + 6 ≤ p' ∧ p' ≤ E ∧ ScC u E p' a.2 ∧ ScM u E p' b.2) ∧ QR (n + 1) a.2 b.2 ∧ b.2 84 40 = n + 1 ∧ a.2 8 2 = Mc 8 2 ∧ FrPc Mc a.2 ∧ FrPm Mm b.2) ∨ BadP Mc Mm a b) := by
  have t := te_is u hp
  have s := ts_is u hp
  obtain ⟨v, ev, hv⟩ := p_verb hE hp hC hM h40
  unfold f_X3_parseStatement
  rw [ev, obs]
  rcases hv with ⟨hv, hb⟩ | ⟨v0, v5, hl, er⟩
  · refine .lT hv (Both.of (P := fun a => a = ((1 : Int), Mc)) (.ret rfl) hb (fun a b ha ⟨b1, b2, b3, b4⟩ => Or.inr ?_))
    subst ha
    exact ⟨by show (1 : Int) ≤ 1; decide, by show (1 : Int) ≤ 4; decide, b1, b2, by show b.2 84 23 = Mc 3 2; rw [b3, hM.1.2.1, hC.1.2.1], FrPc.rf, fun c i hc => b4 c i (fun x => hc (by unfold PMz; omega))⟩
  · rw [er]
    unfold nVerb
    obtain ⟨m1, m2, m3, m4⟩ := hM
    obtain ⟨c1, c2⟩ := hC
    refine .lF (by omega) (.lF (by omega) (.lT (by omega) (.lT (by omega) (.pl fun M1 e1 => .bl (c_moveOn (u := u) hE t.2.1 M1 (fun j hj => by rw [e1, if_neg (by omega)]; exact c2 j hj) (by rw [e1, if_neg (by omega)]; exact c1.1) (by rw [e1, if_neg (by omega)]; exact c1.2.2.1)) (fun M2 ⟨a2, b2⟩ => .br (starts_go 1 (m_advance hE t.2.1 Mm m2.1 m1.1 m1.2.2.1)) (fun q ⟨q1, q2, q3⟩ => .rF (by omega) (.rT (by omega) (.pr fun M3 e3 => ?_))))))))
    have o2 : ∀ c i, c ≠ 3 → ¬ (c = 9 ∧ i = (n : Int)) → M2 c i = Mc c i := fun c i h h' => by rw [b2 c i h, e1, if_neg h']
    have o3 : ∀ (c : Nat) (i : Int), ¬ (c = 84 ∧ 18 ≤ i ∧ i ≤ 21) → ¬ (c = 105 ∧ i = n) → M3 c i = Mm c i := fun c i h h' => by rw [e3, if_neg h']; exact q3 c i h
    have hM3 : ScM u E (te u E p) M3 := by
      refine ⟨?_, m2.same (fun j => o3 91 j (by omega) (by omega)), (o3 84 22 (by omega) (by omega)).trans m3, (o3 84 23 (by omega) (by omega)).trans m4⟩
      unfold TM at q2 ⊢
      rw [e3, if_neg (by omega), e3, if_neg (by omega), e3, if_neg (by omega), e3, if_neg (by omega), e3, if_neg (by omega)]
      exact q2
    have v9 : M2 9 n = v := by rw [b2 9 n (by omega), e1, if_pos ⟨rfl, rfl⟩]
    have v105 : M3 105 n = v := by rw [e3, if_pos ⟨rfl, rfl⟩]
    refine (num_L (n := n) hE hn v (nm v) 4096 4096 0 (te u E p) M2 M3 (by omega) (by have := nm_le v; omega) (by have := nm_le v; omega) (by omega) t.2.1 ⟨a2, fun j hj => (o2 2 j (by omega) (by omega)).trans (c2 j hj)⟩ hM3 ((o3 84 40 (by omega) (by omega)).trans h40) (fun j hj => by omega)).mono (fun a b hab => ?_)
    rcases hab with ⟨y1, y2, ⟨p', y3, y4, y5, y6⟩, y7, y8, y9, y10⟩ | h
    · refine Or.inl ⟨y1, y2, ⟨p', by omega, y4, y5, y6⟩, fun i hi => ?_, y8, ?_, fun c i hc => ?_, fun c i hc => ?_⟩
      · by_cases e : i = n
        · subst e
          rw [y9 9 i (by omega) (by omega), y10 105 i (by omega) (by omega), v9, v105]
          exact ⟨v0, v5, rfl, y7⟩
        · have nl := nm_le (Mc 9 i)
          obtain ⟨g1, g2, g3, g4⟩ := hq i (by omega)
          have e9 : a.2 9 i = Mc 9 i := by rw [y9 9 i (by omega) (by omega), o2 9 i (by omega) (by omega)]
          rw [e9, y10 105 i (by omega) (by omega), o3 105 i (by omega) (by omega)]
          refine ⟨g1, g2, g3, fun j hj => ?_⟩
          rw [y9 10 _ (by omega) (by omega), o2 10 _ (by omega) (by omega), y10 (106 + j) i (by omega) (by omega), o3 (106 + j) i (by omega) (by omega)]
          exact g4 j hj
      · rw [y9 8 2 (by omega) (by omega), o2 8 2 (by omega) (by omega)]
      · rw [y9 c i (by omega) (by omega), o2 c i (by omega) (by omega)]
      · unfold PMz at hc
        rw [y10 c i (by omega) (by omega), o3 c i (by omega) (by omega)]
    · exact Or.inr (h.pre (fun c i hc => o2 c i (by omega) (by omega)) (fun c i hc => by unfold PMz at hc; exact o3 c i (by omega) (by omega)))
