/-! ===== the beginning ===== -/
theorem empties_90L {M0 : Mem} : ∀ (r fuel n : Nat) (M : Mem), 254 - n = r → r < fuel → n ≤ 254 → (∀ c : Int, 0 ≤ c → c < n → M 90 c = 0) → (∀ x i, x ≠ 90 → M x i = M0 x i) → Ok (f_X10_empties_L2 fuel 90 n M) (fun M' => M' 90 10 = 3 ∧ M' 90 11 = 2 ∧ M' 90 12 = 3 ∧ M' 90 13 = 4 ∧ M' 90 0 = 0 ∧ M' 90 1 = 0 ∧ ∀ x i, x ≠ 90 → M' x i = M0 x i) := by
  have al : alen 90 = 254 := by decide
  intro r
  induction r with
  | zero =>
    intro fuel n M hr hf hn hq ho
    obtain ⟨fuel, rfl⟩ : ∃ f, fuel = f + 1 := ⟨fuel - 1, by omega⟩
    rw [f_X10_empties_L2]
    refine .ifT (by omega) ?_
    unfold f_X10_empties_K19
    rw [al]
    refine .ifT (by omega) (.put fun M1 e1 => .ifT (by omega) (.put fun M2 e2 => .ifT (by omega) (.put fun M3 e3 => .ifT (by omega) (.put fun M4 e4 => .ret ⟨?_, ?_, ?_, ?_, ?_, ?_, fun x i hx => ?_⟩))))
    · rw [e4, if_neg (by omega), e3, if_neg (by omega), e2, if_neg (by omega), e1, if_pos ⟨rfl, rfl⟩]
    · rw [e4, if_neg (by omega), e3, if_neg (by omega), e2, if_pos ⟨rfl, rfl⟩]
    · rw [e4, if_neg (by omega), e3, if_pos ⟨rfl, rfl⟩]
    · rw [e4, if_pos ⟨rfl, rfl⟩]
    · rw [e4, if_neg (by omega), e3, if_neg (by omega), e2, if_neg (by omega), e1, if_neg (by omega)]; exact hq 0 (by omega) (by omega)
    · rw [e4, if_neg (by omega), e3, if_neg (by omega), e2, if_neg (by omega), e1, if_neg (by omega)]; exact hq 1 (by omega) (by omega)
    · rw [e4, if_neg (by omega), e3, if_neg (by omega), e2, if_neg (by omega), e1, if_neg (by omega)]; exact ho x i hx
  | succ r ih =>
    intro fuel n M hr hf hn hq ho
    obtain ⟨fuel, rfl⟩ : ∃ f, fuel = f + 1 := ⟨fuel - 1, by omega⟩
    rw [f_X10_empties_L2, al]
    refine .ifF (by omega) (.ifT (by omega) (.put fun M1 e1 => .let fun v ev => ?_))
    rw [w32_of (by omega) (by omega)] at ev
    have ev2 : v = ((n + 1 : Nat) : Int) := by omega
    subst ev2
    refine ih fuel (n + 1) M1 (by omega) (by omega) (by omega) (fun c h0 h1 => ?_) (fun x i hx => by rw [e1, if_neg (by omega)]; exact ho x i hx)
    rw [e1]
    by_cases e : c = n
    · rw [if_pos ⟨rfl, e⟩]
    · rw [if_neg (by omega)]; exact hq c h0 (by omega)
theorem clear_O {M0 : Mem} (o : Nat) : ∀ (r fuel n : Nat) (M : Mem), 127 - n = r → r < fuel → n ≤ 127 → (∀ c : Int, 0 ≤ c → c < n → M (o + 1) c = -1) → (∀ x i, x ≠ o + 1 → M x i = M0 x i) → Ok (f_X7_clear_L2 fuel o n M) (fun M' => (∀ c, 0 ≤ c → c ≤ 126 → M' (o + 1) c = -1) ∧ M' o 2 = 0 ∧ ∀ x i, ¬ (x = o ∨ x = o + 1) → M' x i = M0 x i) := by
  intro r
  induction r with
  | zero =>
    intro fuel n M hr hf hn hq ho
    obtain ⟨fuel, rfl⟩ : ∃ f, fuel = f + 1 := ⟨fuel - 1, by omega⟩
    rw [f_X7_clear_L2]
    refine .ifT (by omega) (.put fun M1 e1 => .ret ⟨fun c h0 h1 => ?_, ?_, fun x i hx => ?_⟩)
    · rw [e1, if_neg (by omega)]; exact hq c h0 (by omega)
    · rw [e1, if_pos ⟨rfl, rfl⟩]
    · rw [e1, if_neg (by omega)]; exact ho x i (by omega)
  | succ r ih =>
    intro fuel n M hr hf hn hq ho
    obtain ⟨fuel, rfl⟩ : ∃ f, fuel = f + 1 := ⟨fuel - 1, by omega⟩
    rw [f_X7_clear_L2]
    refine .ifF (by omega) (.ifT (by omega) (.put fun M1 e1 => .let fun v ev => ?_))
    rw [w32_of (by omega) (by omega)] at ev
    have ev2 : v = ((n + 1 : Nat) : Int) := by omega
    subst ev2
    refine ih fuel (n + 1) M1 (by omega) (by omega) (by omega) (fun c h0 h1 => ?_) (fun x i hx => by rw [e1, if_neg (by omega)]; exact ho x i hx)
    rw [e1]
    by_cases e : c = n
    · rw [if_pos ⟨rfl, e⟩]
    · rw [if_neg (by omega)]; exact hq c h0 (by omega)
theorem init4_ok (o : Nat) (M : Mem) : Ok (f_X4_init o M) (fun M' => M' o 2 = 0 ∧ M' o 3 = 0 ∧ M' o 4 = 3 ∧ M' o 5 = 2 ∧ M' o 6 = 3 ∧ M' o 7 = 4 ∧ ∀ c i, c ≠ o → M' c i = M c i) := by
  unfold f_X4_init
  refine .put fun M1 e1 => .put fun M2 e2 => .put fun M3 e3 => .put fun M4 e4 => .put fun M5 e5 => .put fun M6 e6 => .ret ⟨?_, ?_, ?_, ?_, ?_, ?_, fun c i hc => ?_⟩
  · rw [e6, if_neg (by omega), e5, if_neg (by omega), e4, if_neg (by omega), e3, if_neg (by omega), e2, if_neg (by omega), e1, if_pos ⟨rfl, rfl⟩]
  · rw [e6, if_neg (by omega), e5, if_neg (by omega), e4, if_neg (by omega), e3, if_neg (by omega), e2, if_pos ⟨rfl, rfl⟩]
  · rw [e6, if_neg (by omega), e5, if_neg (by omega), e4, if_neg (by omega), e3, if_pos ⟨rfl, rfl⟩]
  · rw [e6, if_neg (by omega), e5, if_neg (by omega), e4, if_pos ⟨rfl, rfl⟩]
  · rw [e6, if_neg (by omega), e5, if_pos ⟨rfl, rfl⟩]
  · rw [e6, if_pos ⟨rfl, rfl⟩]
  · rw [e6, if_neg (by omega), e5, if_neg (by omega), e4, if_neg (by omega), e3, if_neg (by omega), e2, if_neg (by omega), e1, if_neg (by omega)]
theorem init5_ok (o : Nat) (M : Mem) : Ok (f_X5_init o M) (fun M' => ∀ c i, c ≠ o → M' c i = M c i) := by
  unfold f_X5_init
  refine .put fun M1 e1 => .put fun M2 e2 => .put fun M3 e3 => .put fun M4 e4 => .put fun M5 e5 => .put fun M6 e6 => .put fun M7 e7 => .ret (fun c i hc => ?_)
  rw [e7, if_neg (by omega), e6, if_neg (by omega), e5, if_neg (by omega), e4, if_neg (by omega), e3, if_neg (by omega), e2, if_neg (by omega), e1, if_neg (by omega)]
theorem init2_ok (M : Mem) : Ok (f_X2_init M) (fun M' => ∀ c i, c ≠ 66 → M' c i = M c i) := by
  unfold f_X2_init
  refine .put fun M1 e1 => .put fun M2 e2 => .put fun M3 e3 => .put fun M4 e4 => .put fun M5 e5 => .put fun M6 e6 => .ret (fun c i hc => ?_)
  rw [e6, if_neg (by omega), e5, if_neg (by omega), e4, if_neg (by omega), e3, if_neg (by omega), e2, if_neg (by omega), e1, if_neg (by omega)]
theorem init8_ok (M : Mem) : Ok (f_X8_init M) (fun M' => ∀ c i, c ≠ 3 → M' c i = M c i) := by
  unfold f_X8_init
  refine .put fun M1 e1 => .put fun M2 e2 => .put fun M3 e3 => .put fun M4 e4 => .ret (fun c i hc => ?_)
  rw [e4, if_neg (by omega), e3, if_neg (by omega), e2, if_neg (by omega), e1, if_neg (by omega)]
theorem init7_ok (o : Nat) (M : Mem) : Ok (f_X7_init o M) (fun M' => (∀ c, 0 ≤ c → c ≤ 126 → M' (o + 1) c = -1) ∧ M' o 2 = 0 ∧ ∀ x i, ¬ (x = o ∨ x = o + 1) → M' x i = M x i) := by
  unfold f_X7_init f_X7_clear
  refine .put fun M1 e1 => .bind (clear_O (M0 := M1) o 127 4096 0 M1 rfl (by omega) (by omega) (fun c h0 h1 => by omega) (fun x i _ => rfl)) (fun M2 ⟨a, b, c⟩ => .ret ⟨a, b, fun x i hx => ?_⟩)
  rw [c x i hx, e1, if_neg (by omega)]
theorem init6_ok (M : Mem) : Ok (f_X6_init M) (fun M' => ∀ c i, ¬ (4 ≤ c ∧ c ≤ 6) → M' c i = M c i) := by
  unfold f_X6_init
  refine .bind (init7_ok 5 M) (fun M0 ⟨_, _, h0⟩ => .put fun M1 e1 => .put fun M2 e2 => .put fun M3 e3 => .put fun M4 e4 => .put fun M5 e5 => .put fun M6 e6 => .ret (fun c i hc => ?_))
  rw [e6, if_neg (by omega), e5, if_neg (by omega), e4, if_neg (by omega), e3, if_neg (by omega), e2, if_neg (by omega), e1, if_neg (by omega), h0 c i (by omega)]
theorem init0_ok (M : Mem) : Ok (f_X0_init M) (fun M' => M' 20 1 = 0 ∧ M' 20 2 = 0 ∧ ∀ c i, ¬ (20 ≤ c ∧ c ≤ 51) → M' c i = M c i) := by
  unfold f_X0_init
  refine .put fun M1 e1 => .put fun M2 e2 => .bind (init4_ok 22 M2) (fun N1 ⟨_, _, _, _, _, _, f1⟩ => .bind (init4_ok 25 N1) (fun N2 ⟨_, _, _, _, _, _, f2⟩ => .bind (init4_ok 28 N2) (fun N3 ⟨_, _, _, _, _, _, f3⟩ => .bind (init4_ok 31 N3) (fun N4 ⟨_, _, _, _, _, _, f4⟩ => .bind (init4_ok 34 N4) (fun N5 ⟨_, _, _, _, _, _, f5⟩ => .bind (init4_ok 37 N5) (fun N6 ⟨_, _, _, _, _, _, f6⟩ => .bind (init4_ok 40 N6) (fun N7 ⟨_, _, _, _, _, _, f7⟩ => .bind (init4_ok 43 N7) (fun N8 ⟨_, _, _, _, _, _, f8⟩ => .bind (init4_ok 46 N8) (fun N9 ⟨_, _, _, _, _, _, f9⟩ => .bind (init4_ok 49 N9) (fun N10 ⟨_, _, _, _, _, _, f10⟩ => .ret ?_))))))))))
  have o : ∀ c i, ¬ (22 ≤ c ∧ c ≤ 51) → N10 c i = M2 c i := fun c i h => by rw [f10 c i (by omega), f9 c i (by omega), f8 c i (by omega), f7 c i (by omega), f6 c i (by omega), f5 c i (by omega), f4 c i (by omega), f3 c i (by omega), f2 c i (by omega), f1 c i (by omega)]
  refine ⟨?_, ?_, fun c i h => ?_⟩
  · rw [o 20 1 (by omega), e2, if_neg (by omega), e1, if_pos ⟨rfl, rfl⟩]
  · rw [o 20 2 (by omega), e2, if_pos ⟨rfl, rfl⟩]
  · rw [o c i (by omega), e2, if_neg (by omega), e1, if_neg (by omega)]
theorem addKind_11 {M : Mem} (h12 : ∀ c, 0 ≤ c → c ≤ 126 → M 12 c = -1) (h2 : M 11 2 = 0) : Ok (f_X7_addKind 11 40 41 M) (fun q => (∀ c, 0 ≤ c → c ≤ 126 → q.2 12 c = uR (uR (fun _ => -1) 40 0) 41 1 c) ∧ q.2 11 2 = 1 ∧ q.2 13 0 = 40 ∧ q.2 13 1 = 41 ∧ ∀ c i, ¬ (11 ≤ c ∧ c ≤ 13) → q.2 c i = M c i) := by
  unfold f_X7_addKind f_X7_roleOf
  refine .ifF (by decide) (.bind (Q := fun z => z = -1) (.ifF (by decide) (.ifF (by decide) (.ifT (by decide) (.ret (h12 40 (by omega) (by omega)))))) (fun z hz => .ifT hz (.bind (Q := fun z => z = -1) (.ifF (by decide) (.ifF (by decide) (.ifT (by decide) (.ret (h12 41 (by omega) (by omega)))))) (fun z hz => .ifT hz ?_))))
  rw [h2, show w32 (2 * 0) = 0 from w32_of (by decide) (by decide)]
  refine .ifT (by decide) (.ifT (by decide) (.put fun M1 e1 => ?_))
  have k1 : M1 11 2 = 0 := by rw [e1, if_neg (by omega)]; exact h2
  rw [k1, show w32 (2 * 0) = 0 from w32_of (by decide) (by decide), show w32 (0 + 1) = 1 from w32_of (by decide) (by decide)]
  refine .ifT (by decide) (.put fun M2 e2 => ?_)
  have k2 : M2 11 2 = 0 := by rw [e2, if_neg (by omega)]; exact k1
  rw [k2, show w32 (2 * 0) = 0 from w32_of (by decide) (by decide)]
  have o2 : ∀ c i, c ≠ 13 → M2 c i = M c i := fun c i h => by rw [e2, if_neg (by omega), e1, if_neg (by omega)]
  unfold f_X7_tell
  refine .bind (Q := fun q => ∀ b i, q.2 b i = if b = 12 ∧ i = 40 then 0 else M2 b i) (.ifF (by decide) (.ifT (by decide) (.ifT (by decide) (.ifT ((o2 12 40 (by omega)).trans (h12 40 (by omega) (by omega))) (.put fun M3 e3 => .ret e3))))) (fun q3 e3 => ?_)
  have k3 : q3.2 11 2 = 0 := by rw [e3, if_neg (by omega)]; exact k2
  rw [k3, show w32 (2 * 0) = 0 from w32_of (by decide) (by decide), show w32 (0 + 1) = 1 from w32_of (by decide) (by decide)]
  refine .bind (Q := fun q => ∀ b i, q.2 b i = if b = 12 ∧ i = 41 then 1 else q3.2 b i) (.ifF (by decide) (.ifT (by decide) (.ifT (by decide) (.ifT ?_ (.put fun M3 e3 => .ret e3))))) (fun q4 e4 => ?_)
  · show q3.2 12 41 = -1
    rw [e3, if_neg (by omega), o2 12 41 (by omega)]; exact h12 41 (by omega) (by omega)
  have k4 : q4.2 11 2 = 0 := by rw [e4, if_neg (by omega)]; exact k3
  rw [k4, show w32 (0 + 1) = 1 from w32_of (by decide) (by decide)]
  refine .put fun M5 e5 => .ret ⟨fun c h0 h1 => ?_, ?_, ?_, ?_, fun c i hc => ?_⟩
  · show M5 12 c = _
    rw [e5, if_neg (by omega), e4]
    by_cases g : c = 41
    · rw [if_pos ⟨rfl, g⟩, g, uR_y]
    · rw [if_neg (by omega), uR_n _ g, e3]
      by_cases g2 : c = 40
      · rw [if_pos ⟨rfl, g2⟩, g2, uR_y]
      · rw [if_neg (by omega), uR_n _ g2, o2 12 c (by omega)]; exact h12 c h0 h1
  · show M5 11 2 = 1
    rw [e5, if_pos ⟨rfl, rfl⟩]
  · show M5 13 0 = 40
    rw [e5, if_neg (by omega), e4, if_neg (by omega), e3, if_neg (by omega), e2, if_neg (by omega), e1, if_pos ⟨rfl, rfl⟩]
  · show M5 13 1 = 41
    rw [e5, if_neg (by omega), e4, if_neg (by omega), e3, if_neg (by omega), e2, if_pos ⟨rfl, rfl⟩]
  · show M5 c i = _
    rw [e5, if_neg (by omega), e4, if_neg (by omega), e3, if_neg (by omega), o2 c i (by omega)]
def P00 : Pg := (0, 0, 3, 2, 3, 4, fun _ => 0, fun _ => 0)
def T00 : Tx := (P00, 0, fun _ => P00, fun _ => 0, fun _ => P00)
def G00 : Sn := (uR (uR (fun _ => -1) 40 0) 41 1, 1, fun k => if k = 0 then 40 else 41)
def B00 : Bx := (0, fun _ => 0, -1, 0, fun _ => 0)
theorem ro00 (c : Int) : (c = 40 ∧ G00.1 c = 0) ∨ (c = 41 ∧ G00.1 c = 1) ∨ (c ≠ 40 ∧ c ≠ 41 ∧ G00.1 c = -1) := by
  show (c = 40 ∧ uR (uR (fun _ => -1) 40 0) 41 1 c = 0) ∨ (c = 41 ∧ uR (uR (fun _ => -1) 40 0) 41 1 c = 1) ∨ (c ≠ 40 ∧ c ≠ 41 ∧ uR (uR (fun _ => -1) 40 0) 41 1 c = -1)
  by_cases g : c = 41
  · exact Or.inr (Or.inl ⟨g, by rw [g, uR_y]⟩)
  · by_cases g2 : c = 40
    · exact Or.inl ⟨g2, by rw [uR_n _ g, g2, uR_y]⟩
    · exact Or.inr (Or.inr ⟨g2, g, by rw [uR_n _ g, uR_n _ g2]⟩)
theorem P00_w : Wf P00 := ⟨by decide, by decide, fun p p0 p1 => by have p1 : p < 0 := p1; omega, fun k k0 k1 => by have k1 : k < 0 := k1; omega⟩
theorem T00_w : WT T00 := ⟨P00_w, ⟨Int.le_refl 0, by show (0 : Int) ≤ 10; omega, fun k k0 k1 => by have k1 : k < 0 := k1; omega⟩, fun s _ => ⟨Or.inl rfl, fun h => absurd h (by show ¬ (0 : Int) = 1; decide)⟩⟩
theorem G00_w : WG G00 := by
  refine ⟨fun c => ?_, ?_, by decide, by decide, fun k hk => ?_⟩
  · show G00.1 c = -1 ∨ (0 ≤ G00.1 c ∧ G00.1 c < 2 * 1) ∨ (8 ≤ G00.1 c ∧ G00.1 c ≤ 10)
    have := ro00 c
    omega
  · have := ro00 10
    omega
  · show isTxt (if k = 0 then 40 else 41)
    unfold isTxt
    split <;> omega
theorem B00_w : WB B00 := ⟨by decide, by decide, fun j j0 j1 => by have j1 : j < 0 := j1; omega, by decide, by decide⟩
theorem init_c {M0 : Mem} (hM0 : ∀ c i, M0 c i = 0) : Ok (f_X9_init M0) (fun M => CI T00 G00 B00 M ∧ ∀ c i, 84 ≤ c → M c i = 0) := by
  unfold f_X9_init f_X1_init f_X3_init
  refine .bind (.put fun M1 e1 => .ret e1) (fun M1 e1 => .bind (init8_ok M1) (fun M2 e2 => .bind (init6_ok M2) (fun M3 e3 => .bind (.put fun M4 e4 => .ret e4) (fun M4 e4 => .bind (init7_ok 11 M4) (fun M5 ⟨a5, b5, e5⟩ => .bind (init4_ok 14 M5) (fun M6 ⟨p1, p2, p3, p4, p5, p6, e6⟩ => .bind (init4_ok 17 M6) (fun M7 ⟨_, _, _, _, _, _, e7⟩ => .bind (init0_ok M7) (fun M8 ⟨h1, h2, e8⟩ => .bind (init5_ok 54 M8) (fun M9 e9 => .bind (init5_ok 60 M9) (fun M10 e10 => .bind (init2_ok M10) (fun M11 e11 => .put fun M12 e12 => .put fun M13 e13 => .put fun M14 e14 => .put fun M15 e15 => ?_)))))))))))
  have f15 : ∀ c i, c ≠ 0 → M15 c i = M11 c i := fun c i h => by rw [e15, if_neg (by omega), e14, if_neg (by omega), e13, if_neg (by omega), e12, if_neg (by omega)]
  have f11 : ∀ c i, c ≠ 54 → c ≠ 60 → c ≠ 66 → M11 c i = M8 c i := fun c i x y z => by rw [e11 c i z, e10 c i y, e9 c i x]
  have f7 : ∀ c i, c ≠ 14 → c ≠ 17 → M7 c i = M5 c i := fun c i x y => by rw [e7 c i y, e6 c i x]
  have f4 : ∀ c i, c ≠ 8 → ¬ (3 ≤ c ∧ c ≤ 6) → M4 c i = M1 c i := fun c i x y => by rw [e4, if_neg (by omega), e3 c i (by omega), e2 c i (by omega)]
  refine .bind (addKind_11 (fun c c0 c1 => ?_) ?_) (fun q ⟨q1, q2, q3, q4, q5⟩ => .bind (init4_ok 78 q.2) (fun N1 ⟨_, _, _, _, _, _, n1⟩ => .bind (init4_ok 81 N1) (fun N2 ⟨_, _, _, _, _, _, n2⟩ => .ret ?_)))
  · rw [f15 12 c (by omega), f11 12 c (by omega) (by omega) (by omega), e8 12 c (by omega), f7 12 c (by omega) (by omega)]; exact a5 c c0 c1
  · rw [f15 11 2 (by omega), f11 11 2 (by omega) (by omega) (by omega), e8 11 2 (by omega), f7 11 2 (by omega) (by omega)]; exact b5
  have fN : ∀ c i, c ≠ 78 → c ≠ 81 → N2 c i = q.2 c i := fun c i x y => by rw [n2 c i y, n1 c i x]
  have fQ : ∀ c i, c ≠ 78 → c ≠ 81 → ¬ (11 ≤ c ∧ c ≤ 13) → c ≠ 0 → c ≠ 54 → c ≠ 60 → c ≠ 66 → N2 c i = M8 c i := fun c i a b d e f g h => by rw [fN c i a b, q5 c i d, f15 c i e, f11 c i f g h]
  have f14 : ∀ i, N2 14 i = M6 14 i := fun i => by rw [fQ 14 i (by omega) (by omega) (by omega) (by omega) (by omega) (by omega) (by omega), e8 14 i (by omega), e7 14 i (by omega)]
  have fz : ∀ c i, ¬ (1 ≤ c ∧ c ≤ 51) → c ≠ 78 → c ≠ 81 → c ≠ 0 → c ≠ 54 → c ≠ 60 → c ≠ 66 → N2 c i = 0 := fun c i z a b e f g h => by rw [fQ c i a b (by omega) e f g h, e8 c i (by omega), f7 c i (by omega) (by omega), e5 c i (by omega), f4 c i (by omega) (by omega), e1, if_neg (by omega)]; exact hM0 c i
  have z0 : ∀ i, N2 0 i = M15 0 i := fun i => by rw [fN 0 i (by omega) (by omega), q5 0 i (by omega)]
  refine ⟨⟨⟨(f14 2).trans p1, (f14 3).trans p2, (f14 4).trans p3, (f14 5).trans p4, (f14 6).trans p5, (f14 7).trans p6, fun p p0 p1 => by have p1 : p < 0 := p1; omega, fun k k0 k1 => by have k1 : k < 0 := k1; omega⟩, ⟨?_, ?_, ?_, fun k k0 k1 => by have k1 : k < 0 := k1; omega⟩, fun s hs => ⟨fz 53 _ (by omega) (by omega) (by omega) (by omega) (by omega) (by omega) (by omega), fun h => absurd h (by show ¬ (0 : Int) = 1; decide)⟩, ⟨⟨fun c => ?_, fun c => ?_, ?_⟩, ?_, fun k hk => ?_⟩, ⟨?_, fun j j0 j1 => by have j1 : j < 0 := j1; omega⟩, ?_, ⟨?_, fun k k0 k1 => by have k1 : k < 0 := k1; omega⟩, CCa.due ?_ ?_⟩, fun c i hc => fz c i (by omega) (by omega) (by omega) (by omega) (by omega) (by omega) (by omega)⟩
  · show N2 20 2 = 0
    rw [fQ 20 2 (by omega) (by omega) (by omega) (by omega) (by omega) (by omega) (by omega)]; exact h2
  · rw [fQ 20 1 (by omega) (by omega) (by omega) (by omega) (by omega) (by omega) (by omega), h1]; decide
  · rw [fQ 20 1 (by omega) (by omega) (by omega) (by omega) (by omega) (by omega) (by omega), h1]; decide
  · show (if 0 ≤ c ∧ c ≤ 126 then N2 12 c else -1) = uR (uR (fun _ => -1) 40 0) 41 1 c
    by_cases hc : 0 ≤ c ∧ c ≤ 126
    · rw [if_pos hc, fN 12 c (by omega) (by omega)]; exact q1 c hc.1 hc.2
    · rw [if_neg hc, uR_n _ (by omega), uR_n _ (by omega)]
  · have := ro00 c
    omega
  · have := ro00 10
    omega
  · show N2 11 2 = 1
    rw [fN 11 2 (by omega) (by omega)]; exact q2
  · have hk : (k : Int) < 2 * 1 := hk
    have k2 : k = 0 ∨ k = 1 := by omega
    rcases k2 with rfl | rfl
    · show N2 13 0 = 40
      rw [fN 13 0 (by omega) (by omega)]; exact q3
    · show N2 13 1 = 41
      rw [fN 13 1 (by omega) (by omega)]; exact q4
  · show N2 1 1 = 0
    rw [fQ 1 1 (by omega) (by omega) (by omega) (by omega) (by omega) (by omega) (by omega), e8 1 1 (by omega), f7 1 1 (by omega) (by omega), e5 1 1 (by omega), f4 1 1 (by omega) (by omega), e1, if_pos ⟨rfl, rfl⟩]
  · show N2 0 15 = -1
    rw [z0, e15, if_neg (by omega), e14, if_neg (by omega), e13, if_pos ⟨rfl, rfl⟩]
  · show N2 0 14 = 0
    rw [z0, e15, if_neg (by omega), e14, if_neg (by omega), e13, if_neg (by omega), e12, if_pos ⟨rfl, rfl⟩]
  · rw [z0, e15, if_neg (by omega), e14, if_pos ⟨rfl, rfl⟩]
  · rw [z0, e15, if_pos ⟨rfl, rfl⟩]
theorem init_m {M : Mem} (hC : CI T00 G00 B00 M) (hz : ∀ c i, 84 ≤ c → M c i = 0) : Ok (f_X10_init M) (fun M' => CI T00 G00 B00 M' ∧ MoI T00 G00 B00 M') := by
  unfold f_X10_init f_X10_empties
  refine .put fun M1 e1 => .put fun M2 e2 => .put fun M3 e3 => .put fun M4 e4 => .put fun M5 e5 => .put fun M6 e6 => .put fun M7 e7 => .bind (empties_90L (M0 := M7) 254 4096 0 M7 rfl (by omega) (by omega) (fun c c0 c1 => by omega) (fun _ _ _ => rfl)) (fun M8 ⟨y10, y11, y12, y13, y0, y1, ym⟩ => .ret ?_)
  have o : ∀ c i, ¬ (c = 84 ∧ (i = 1 ∨ i = 4 ∨ i = 5 ∨ i = 6 ∨ i = 23)) → c ≠ 85 → c ≠ 86 → c ≠ 90 → M8 c i = M c i := fun c i x y z w => by rw [ym c i w, e7, if_neg (by omega), e6, if_neg (by omega), e5, if_neg (by omega), e4, if_neg (by omega), e3, if_neg (by omega), e2, if_neg (by omega), e1, if_neg (by omega)]
  have k1 : M8 84 1 = 1 := by rw [ym 84 1 (by omega), e7, if_neg (by omega), e6, if_neg (by omega), e5, if_pos ⟨rfl, rfl⟩]
  have k4 : M8 84 4 = -1 := by rw [ym 84 4 (by omega), e7, if_neg (by omega), e6, if_neg (by omega), e5, if_neg (by omega), e4, if_neg (by omega), e3, if_neg (by omega), e2, if_neg (by omega), e1, if_pos ⟨rfl, rfl⟩]
  have k5 : M8 84 5 = -1 := by rw [ym 84 5 (by omega), e7, if_neg (by omega), e6, if_neg (by omega), e5, if_neg (by omega), e4, if_neg (by omega), e3, if_neg (by omega), e2, if_pos ⟨rfl, rfl⟩]
  have k6 : M8 84 6 = -1 := by rw [ym 84 6 (by omega), e7, if_neg (by omega), e6, if_neg (by omega), e5, if_neg (by omega), e4, if_neg (by omega), e3, if_pos ⟨rfl, rfl⟩]
  have k23 : M8 84 23 = -1 := by rw [ym 84 23 (by omega), e7, if_neg (by omega), e6, if_neg (by omega), e5, if_neg (by omega), e4, if_pos ⟨rfl, rfl⟩]
  have k85 : M8 85 0 = 40 := by rw [ym 85 0 (by omega), e7, if_neg (by omega), e6, if_pos ⟨rfl, rfl⟩]
  have k86 : M8 86 0 = 41 := by rw [ym 86 0 (by omega), e7, if_pos ⟨rfl, rfl⟩]
  refine ⟨hC.same T00_w (fun c i hc => o c i (by omega) (by omega) (by omega) (by omega)), ⟨y0, y1, y10, y11, y12, y13, fun p p0 p1 => by have p1 : p < 0 := p1; omega, fun k k0 k1 => by have k1 : k < 0 := k1; omega⟩, ⟨?_, fun k k0 k1 => by have k1 : k < 0 := k1; omega⟩, fun s hs => ⟨?_, fun h => absurd h (by show ¬ (0 : Int) = 1; decide)⟩, ⟨⟨by omega, by omega, fun c hc => ?_⟩, k1, fun k hk => ?_⟩, ⟨?_, fun j j0 j1 => by have j1 : j < 0 := j1; omega⟩, k23, ⟨?_, fun k k0 k1 => by have k1 : k < 0 := k1; omega⟩⟩
  · show M8 84 46 = 0
    rw [o 84 46 (by omega) (by omega) (by omega) (by omega)]; exact hz 84 46 (by omega)
  · show M8 112 s = 0
    rw [o 112 s (by omega) (by omega) (by omega) (by omega)]; exact hz 112 s (by omega)
  · have r := ro00 c
    have c1 : c ≠ -1 := by unfold isTxt at hc; omega
    rw [k1, k4, k5, k6]
    refine ⟨by omega, by omega, by omega, fun k k0 kk => ?_, by omega⟩
    have : k = 0 := by omega
    subst this
    rw [k85, k86]
    omega
  · have hk : (k : Int) < 1 := hk
    have : k = 0 := by omega
    subst this
    exact ⟨k85, k86⟩
  · show M8 84 16 = 0
    rw [o 84 16 (by omega) (by omega) (by omega) (by omega)]; exact hz 84 16 (by omega)
  · show M8 84 39 = 0
    rw [o 84 39 (by omega) (by omega) (by omega) (by omega)]; exact hz 84 39 (by omega)
theorem init_ok {M0 : Mem} (hM0 : ∀ c i, M0 c i = 0) : ∃ M1 M2, f_X9_init M0 = some M1 ∧ f_X10_init M1 = some M2 ∧ Inv M2 := by
  obtain ⟨M1, e1, h1, h2⟩ := init_c hM0
  obtain ⟨M2, e2, h3, h4⟩ := init_m h1 h2
  exact ⟨M1, M2, e1, e2, T00, G00, B00, T00_w, G00_w, B00_w, h3, h4⟩
