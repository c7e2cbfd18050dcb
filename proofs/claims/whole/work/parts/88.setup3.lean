/-! ===== the setup's frame ===== -/
theorem clear_L {M0 : Mem} : ∀ (r fuel n : Nat) (M : Mem), 127 - n = r → r < fuel → n ≤ 127 → (∀ c : Int, 0 ≤ c → c < n → M 6 c = -1) → (∀ x i, x ≠ 6 → M x i = M0 x i) → Ok (f_X7_clear_L2 fuel 5 n M) (fun M' => (∀ c, 0 ≤ c → c ≤ 126 → M' 6 c = -1) ∧ M' 5 2 = 0 ∧ ∀ x i, ¬ (x = 5 ∨ x = 6) → M' x i = M0 x i) := by
  intro r
  induction r with
  | zero =>
    intro fuel n M hr hf hn hq ho
    obtain ⟨fuel, rfl⟩ : ∃ f, fuel = f + 1 := ⟨fuel - 1, by omega⟩
    rw [f_X7_clear_L2]
    refine .ifT (by omega) (.put fun M1 e1 => .ret ⟨fun c h0 h1 => ?_, ?_, fun x i hx => ?_⟩)
    · rw [e1, if_neg (by omega)]; exact hq c h0 (by omega)
    · rw [e1, if_pos ⟨rfl, rfl⟩]
    · rw [e1, if_neg (by omega)]; exact ho x i (by omega)
  | succ r ih =>
    intro fuel n M hr hf hn hq ho
    obtain ⟨fuel, rfl⟩ : ∃ f, fuel = f + 1 := ⟨fuel - 1, by omega⟩
    rw [f_X7_clear_L2]
    refine .ifF (by omega) (.ifT (by omega) (.put fun M1 e1 => .let fun v ev => ?_))
    rw [w32_of (by omega) (by omega)] at ev
    have ev2 : v = ((n + 1 : Nat) : Int) := by omega
    subst ev2
    refine ih fuel (n + 1) M1 (by omega) (by omega) (by omega) (fun c h0 h1 => ?_) (fun x i hx => by rw [e1, if_neg (by omega)]; exact ho x i hx)
    rw [e1]
    by_cases e : c = n
    · rw [if_pos ⟨rfl, e⟩]
    · rw [if_neg (by omega)]; exact hq c h0 (by omega)
def Z0 : Zs := (fun _ => -1, 0, fun _ => 0, 0, 0, 3, 2, 3, 4)
theorem Z0_w : ZsW Z0 := ⟨fun _ => Or.inl rfl, fun _ h => absurd rfl h, Int.le_refl 0, by decide, fun k hk => by have hk : (k : Int) < 2 * 0 := hk; omega, Or.inl rfl, Or.inl rfl, by decide, by decide, by decide, by decide⟩
theorem startOver_ok (M : Mem) : Ok (f_X6_startOver M) (fun M' => RsJ Z0 M' ∧ NsJ Z0 M' ∧ ∀ x i, ¬ (4 ≤ x ∧ x ≤ 6) → M' x i = M x i) := by
  unfold f_X6_startOver f_X7_clear
  refine .bind (clear_L (M0 := M) 127 4096 0 M rfl (by omega) (by omega) (fun c h0 h1 => by omega) (fun x i _ => rfl)) (fun M0 ⟨k1, k2, k3⟩ => .put fun M1 e1 => .put fun M2 e2 => .put fun M3 e3 => .put fun M4 e4 => .put fun M5 e5 => .put fun M6 e6 => .ret ?_)
  have o : ∀ x i, x ≠ 4 → M6 x i = M0 x i := fun x i hx => by rw [e6, if_neg (by omega), e5, if_neg (by omega), e4, if_neg (by omega), e3, if_neg (by omega), e2, if_neg (by omega), e1, if_neg (by omega)]
  refine ⟨⟨fun c h0 h1 => (o 6 c (by omega)).trans (k1 c h0 h1), (o 5 2 (by omega)).trans k2, fun k hk => by have hk : (k : Int) < 2 * 0 := hk; omega⟩, ⟨?_, ?_, ?_, ?_, ?_, ?_⟩, fun x i hx => (o x i (by omega)).trans (k3 x i (by omega))⟩
  · rw [e6, if_neg (by omega), e5, if_pos ⟨rfl, rfl⟩]; rfl
  · rw [e6, if_pos ⟨rfl, rfl⟩]; rfl
  · rw [e6, if_neg (by omega), e5, if_neg (by omega), e4, if_neg (by omega), e3, if_neg (by omega), e2, if_neg (by omega), e1, if_pos ⟨rfl, rfl⟩]; rfl
  · rw [e6, if_neg (by omega), e5, if_neg (by omega), e4, if_neg (by omega), e3, if_neg (by omega), e2, if_pos ⟨rfl, rfl⟩]; rfl
  · rw [e6, if_neg (by omega), e5, if_neg (by omega), e4, if_neg (by omega), e3, if_pos ⟨rfl, rfl⟩]; rfl
  · rw [e6, if_neg (by omega), e5, if_neg (by omega), e4, if_pos ⟨rfl, rfl⟩]; rfl
theorem empties_L {M0 : Mem} : ∀ (r fuel n : Nat) (M : Mem), 254 - n = r → r < fuel → n ≤ 254 → (∀ c : Int, 0 ≤ c → c < n → M 89 c = 0) → (∀ x i, x ≠ 89 → M x i = M0 x i) → Ok (f_X10_empties_L2 fuel 89 n M) (fun M' => M' 89 10 = 3 ∧ M' 89 11 = 2 ∧ M' 89 12 = 3 ∧ M' 89 13 = 4 ∧ M' 89 0 = 0 ∧ M' 89 1 = 0 ∧ ∀ x i, x ≠ 89 → M' x i = M0 x i) := by
  have al : alen 89 = 254 := by decide
  intro r
  induction r with
  | zero =>
    intro fuel n M hr hf hn hq ho
    obtain ⟨fuel, rfl⟩ : ∃ f, fuel = f + 1 := ⟨fuel - 1, by omega⟩
    rw [f_X10_empties_L2]
    refine .ifT (by omega) ?_
    unfold f_X10_empties_K19
    rw [al]
    refine .ifT (by omega) (.put fun M1 e1 => .ifT (by omega) (.put fun M2 e2 => .ifT (by omega) (.put fun M3 e3 => .ifT (by omega) (.put fun M4 e4 => .ret ⟨?_, ?_, ?_, ?_, ?_, ?_, fun x i hx => ?_⟩))))
    · rw [e4, if_neg (by omega), e3, if_neg (by omega), e2, if_neg (by omega), e1, if_pos ⟨rfl, rfl⟩]
    · rw [e4, if_neg (by omega), e3, if_neg (by omega), e2, if_pos ⟨rfl, rfl⟩]
    · rw [e4, if_neg (by omega), e3, if_pos ⟨rfl, rfl⟩]
    · rw [e4, if_pos ⟨rfl, rfl⟩]
    · rw [e4, if_neg (by omega), e3, if_neg (by omega), e2, if_neg (by omega), e1, if_neg (by omega)]; exact hq 0 (by omega) (by omega)
    · rw [e4, if_neg (by omega), e3, if_neg (by omega), e2, if_neg (by omega), e1, if_neg (by omega)]; exact hq 1 (by omega) (by omega)
    · rw [e4, if_neg (by omega), e3, if_neg (by omega), e2, if_neg (by omega), e1, if_neg (by omega)]; exact ho x i hx
  | succ r ih =>
    intro fuel n M hr hf hn hq ho
    obtain ⟨fuel, rfl⟩ : ∃ f, fuel = f + 1 := ⟨fuel - 1, by omega⟩
    rw [f_X10_empties_L2, al]
    refine .ifF (by omega) (.ifT (by omega) (.put fun M1 e1 => .let fun v ev => ?_))
    rw [w32_of (by omega) (by omega)] at ev
    have ev2 : v = ((n + 1 : Nat) : Int) := by omega
    subst ev2
    refine ih fuel (n + 1) M1 (by omega) (by omega) (by omega) (fun c h0 h1 => ?_) (fun x i hx => by rw [e1, if_neg (by omega)]; exact ho x i hx)
    rw [e1]
    by_cases e : c = n
    · rw [if_pos ⟨rfl, e⟩]
    · rw [if_neg (by omega)]; exact hq c h0 (by omega)
theorem k181_L {Q : Int × Mem → Prop} : ∀ (r fuel n : Nat) (M : Mem), 4 - n = r → r < fuel → n ≤ 4 → (∀ j : Nat, j < n → M 85 j = M 87 j ∧ M 86 j = M 88 j) → (∀ M' : Mem, (∀ j : Nat, j < 4 → M' 85 j = M 87 j ∧ M' 86 j = M 88 j) → (∀ c i, c ≠ 85 → c ≠ 86 → M' c i = M c i) → Ok (f_X10_setup_K216 M') Q) → Ok (f_X10_setup_L181 fuel n M) Q := by
  intro r
  induction r with
  | zero =>
    intro fuel n M hr hf hn hq K
    obtain ⟨fuel, rfl⟩ : ∃ f, fuel = f + 1 := ⟨fuel - 1, by omega⟩
    rw [f_X10_setup_L181]
    exact .ifT (by omega) (K M (fun j hj => hq j (by omega)) (fun _ _ _ _ => rfl))
  | succ r ih =>
    intro fuel n M hr hf hn hq K
    obtain ⟨fuel, rfl⟩ : ∃ f, fuel = f + 1 := ⟨fuel - 1, by omega⟩
    rw [f_X10_setup_L181]
    refine .ifF (by omega) (.ifT (by omega) (.put fun M1 e1 => .put fun M2 e2 => .let fun v ev => ?_))
    rw [w32_of (by omega) (by omega)] at ev
    have ev2 : v = ((n + 1 : Nat) : Int) := by omega
    subst ev2
    have o : ∀ c i, c ≠ 85 → c ≠ 86 → M2 c i = M c i := fun c i h1 h2 => by rw [e2, if_neg (by omega), e1, if_neg (by omega)]
    refine ih fuel (n + 1) M2 (by omega) (by omega) (by omega) (fun j hj => ?_) (fun M' q1 q2 => K M' (fun j hj => ?_) (fun c i h1 h2 => (q2 c i h1 h2).trans (o c i h1 h2)))
    · rw [o 87 j (by omega) (by omega), o 88 j (by omega) (by omega), e2, if_neg (by omega), e2 86]
      by_cases e : j = n
      · subst e
        rw [if_pos ⟨rfl, rfl⟩, e1, if_pos ⟨rfl, rfl⟩, e1, if_neg (by omega)]
        exact ⟨rfl, rfl⟩
      · rw [if_neg (by omega), e1, if_neg (by omega), e1, if_neg (by omega)]
        exact hq j (by omega)
    · rw [← o 87 j (by omega) (by omega), ← o 88 j (by omega) (by omega)]; exact q1 j hj
theorem k162_ok (M : Mem) : Ok (f_X10_setup_K162 1 M) (fun q => q.1 = 0 ∧ (∀ j : Nat, j < 4 → q.2 85 j = M 87 j ∧ q.2 86 j = M 88 j) ∧ q.2 84 1 = M 84 7 ∧ q.2 84 4 = M 84 10 ∧ q.2 84 5 = M 84 11 ∧ q.2 84 6 = M 84 12 ∧ (∀ j, 0 ≤ j → j < 254 → q.2 90 j = M 89 j) ∧ q.2 84 46 = 0 ∧ q.2 112 0 = 0 ∧ q.2 112 1 = 0 ∧ ∀ c i, ¬ (c = 84 ∧ (i = 1 ∨ i = 4 ∨ i = 5 ∨ i = 6 ∨ i = 46)) → c ≠ 85 → c ≠ 86 → c ≠ 90 → c ≠ 112 → q.2 c i = M c i) := by
  unfold f_X10_setup_K162
  refine .ifF (by decide) (.put fun M1 e1 => ?_)
  have o1 : ∀ c i, ¬ (c = 84 ∧ i = 1) → M1 c i = M c i := fun c i h => by rw [e1, if_neg h]
  refine k181_L 4 4096 0 M1 rfl (by omega) (by omega) (fun j hj => by omega) (fun M2 q1 q2 => ?_)
  unfold f_X10_setup_K216
  refine .put fun M3 e3 => .put fun M4 e4 => .put fun M5 e5 => .bind (copies_ok 89 90 0 0 (by omega) (by omega) (by decide) (by decide) (by omega) (by omega) (by omega) M5) (fun M6 e6 => .bind (forgets_ok M6) (fun M7 ⟨f1, f2, f3, f4⟩ => .ret ⟨rfl, fun j hj => ?_, ?_, ?_, ?_, ?_, fun j h0 h1 => ?_, f1, f2, f3, fun c i h1 h2 h3 h4 h5 => ?_⟩))
  · show M7 85 j = _ ∧ M7 86 j = _
    rw [f4 85 j (by omega) (by omega), f4 86 j (by omega) (by omega), e6, if_neg (by omega), e6, if_neg (by omega), e5, if_neg (by omega), e5, if_neg (by omega), e4, if_neg (by omega), e4, if_neg (by omega), e3, if_neg (by omega), e3, if_neg (by omega), ← o1 87 j (by omega), ← o1 88 j (by omega)]
    exact q1 j hj
  · show M7 84 1 = _
    rw [f4 84 1 (by omega) (by omega), e6, if_neg (by omega), e5, if_neg (by omega), e4, if_neg (by omega), e3, if_neg (by omega), q2 84 1 (by omega) (by omega), e1, if_pos ⟨rfl, rfl⟩]
  · show M7 84 4 = _
    rw [f4 84 4 (by omega) (by omega), e6, if_neg (by omega), e5, if_neg (by omega), e4, if_neg (by omega), e3, if_pos ⟨rfl, rfl⟩, q2 84 10 (by omega) (by omega), e1, if_neg (by omega)]
  · show M7 84 5 = _
    rw [f4 84 5 (by omega) (by omega), e6, if_neg (by omega), e5, if_neg (by omega), e4, if_pos ⟨rfl, rfl⟩, e3, if_neg (by omega), q2 84 11 (by omega) (by omega), e1, if_neg (by omega)]
  · show M7 84 6 = _
    rw [f4 84 6 (by omega) (by omega), e6, if_neg (by omega), e5, if_pos ⟨rfl, rfl⟩, e4, if_neg (by omega), e3, if_neg (by omega), q2 84 12 (by omega) (by omega), e1, if_neg (by omega)]
  · show M7 90 j = _
    rw [f4 90 j (by omega) (by omega), e6, if_pos (by omega), show (0 : Int) + (j - 0) = j by omega, e5, if_neg (by omega), e4, if_neg (by omega), e3, if_neg (by omega), q2 89 j (by omega) (by omega), e1, if_neg (by omega)]
  · show M7 c i = _
    rw [f4 c i (by omega) h5, e6, if_neg (by omega), e5, if_neg (by omega), e4, if_neg (by omega), e3, if_neg (by omega), q2 c i h2 h3, e1, if_neg (by omega)]
theorem tkm_5 {u : Int → Int} {E p : Nat} (hp : p ≤ E) (x : tkm u E p = 5) : tk u E p = 4 ∧ (te u E p : Int) - ts u E p = 2 := by
  have tr := tk_rng u hp
  unfold tkm at x
  by_cases g : tk u E p = 4
  · rw [if_pos g] at x
    have ti := tk_is u hp g (by decide) (by decide)
    have l4 : lng 4 = 2 := by decide
    refine ⟨g, ?_⟩
    split at x <;> omega
  · rw [if_neg g] at x; omega
/-- the class's parse and what the model does with the same bytes -/
def mRest (M : Mem) : Option (Int × Mem) := (f_X10_isWord 228 M).bind fun p69 => (f_X10_starts 1 p69 M).bind fun p72 => if p72.1 = 0 then f_X10_setup_L91 4096 0 p72.2 else (f_X10_readKind p72.2).bind fun p79 => if p79.1 = 0 then f_X10_setup_L91 4096 0 p79.2 else f_X10_setup_L91 4096 1 p79.2
theorem setup_run {u : Int → Int} {E : Nat} {Mc Mm : Mem} {S : Int × Mem → Int × Mem → Prop} (hE : E ≤ 600) (hu : ∀ j : Nat, j < E → Mc 2 j = u j) (hC : TC u E 0 Mc) (hM : TM u E 0 Mm) (hB : Bt u E Mm) (hR : RsM Z0 Mm) (hN : NsM Z0 Mm) (h22 : Mm 84 22 = 0) (h23 : Mm 84 23 = -1) (K : KonP u E Mc Mm S) : Both (f_X6_parse Mc) (mRest Mm) S := by
  have n1 : ¬ (1 : Int) = 0 := by decide
  have t := te_is u (Nat.zero_le E)
  unfold f_X6_parse mRest
  refine .bl (startOver_ok Mc) (fun M1 ⟨r1, r2, r3⟩ => ?_)
  have f1 : FrPc Mc M1 := fun x i hx => r3 x i (by omega)
  have c1 : ZsC u E 0 Z0 M1 := by
    refine ⟨?_, fun j hj => by rw [r3 2 j (by omega)]; exact hu j hj, r1, r2⟩
    unfold TC at hC ⊢
    rw [r3 3 1 (by omega), r3 3 2 (by omega), r3 3 3 (by omega), r3 3 4 (by omega)]
    exact hC
  have m1 : ZsM u E 0 Z0 Mm := ⟨hM, hB, hR, hN, h22, h23⟩
  refine .bind (p_word hE (Nat.zero_le E) wd_201.1 c1.2.1 c1.1 hM hB) (fun z w hzw => ?_)
  have dm : ∀ (M : Mem), f_X10_setup_L91 4096 0 M = some (M 84 22, M) := fun M => L91_dead 4095 M
  have dc : ∀ (v : Int) (M : Mem), v ≠ 0 → f_X6_parse_L27 4096 v 0 M = some (v, M) := fun v M h => L27_dead (n := 4095) h
  rcases hzw with ⟨z1, w1, _⟩ | ⟨z1, w1, _⟩
  · subst z1
    subst w1
    refine .lF n1 (.bl (c1.move hE (Nat.zero_le E)) (fun M2 ⟨c2, fc2, _⟩ => .br (starts_go 1 (m1.move hE (Nat.zero_le E))) (fun q ⟨q1, q2, fq, _⟩ => .rF (by omega) ?_)))
    have fa : FrPc Mc M2 := f1.trans fc2
    have hp : te u E 0 ≤ E := t.2.1
    unfold f_X6_parseKinds
    rw [isSigns_at hE hp c2.1]
    by_cases h : tk u E (te u E 0) = 4 ∧ (te u E (te u E 0) : Int) - ts u E (te u E 0) = 2
    · have ti := tk_is u hp h.1 (by decide) (by decide)
      rw [if_pos h, obs, if_neg n1, show (4096 : Nat) = 4095 + 1 from rfl, f_X6_parseKinds_L12, if_neg (by omega), isSigns_at hE hp c2.1, if_pos h, obs, if_neg n1]
      obtain ⟨a, b, ea, eb, hab⟩ := p_kind hE hp Z0_w c2 q2 h
      have sg0 := signAt_at hE c2.1 c2.2.1 (v := 0) (n := 0) rfl ti.1
      have ea : f_X7_addKind 5 (u ((ts u E (te u E 0) + 0 : Nat) : Int)) (u ((ts u E (te u E 0) + 1 : Nat) : Int)) M2 = some a := ea
      rw [sg0, signAt_at hE c2.1 c2.2.1 (v := 1) (n := 1) rfl (by omega), obs, obs, ea, eb, obs, obs]
      rcases hab with ⟨a1, b1, Z1, q1', q2', q3', q4', q5', q6'⟩ | ⟨hb, _⟩
      · obtain ⟨Mx, ex, q3'', fx, _⟩ := q3'.move hE hp
        rw [lts, if_pos a1, ex, obs, lts, if_neg (by omega), show w32 (0 + 1) = ((1 : Nat) : Int) from w32_of (by decide) (by decide)]
        have t2 := te_is u hp
        have e0 : Z0.2.1 = 0 := rfl
        exact kinds_L hE K 4 4095 4096 1 (te u E (te u E 0)) Z1 Mx b.2 (by omega) (by omega) (by omega) t2.2.1 q1' (by omega) (by omega) q3'' q5' ((fa.trans q4').trans fx) (fq.trans q6')
      · have d := dead_both K hb fa fq
        rw [lts, if_neg (by have := hb.1; omega), obs, lts, if_pos hb.2.2.1]
        exact ⟨_, _, dc a.1 a.2 (by have := hb.1; omega), dm b.2, d⟩
    · rw [if_neg h, obs, if_pos rfl, obs, lts]
      obtain ⟨b, eb, hb⟩ : Ok (f_X10_readKind q.2) (fun b => b.1 = 0 ∧ b.2 84 22 = 1 ∧ b.2 84 23 = q.2 84 18 ∧ ∀ c i, ¬ (c = 84 ∧ (i = 22 ∨ i = 23)) → b.2 c i = q.2 c i) := by
        unfold f_X10_readKind
        exact .ifF (by rw [q2.1.2.2.2.1]; exact fun x => h (tkm_5 hp x)) (fails_fl 1 q2.2.2.2.2.1)
      have d := dead_both K (bad_here c2 (k := 1) (by omega) q2.1 hb) fa fq
      rw [eb, obs, if_pos hb.1]
      exact ⟨_, _, dc 1 M2 n1, dm b.2, d⟩
  · subst z1
    subst w1
    refine .lT rfl (.br (starts_no 1 h22) (fun b hb => .rT hb.1 ?_))
    have d := dead_both K (bad_here c1 (k := 1) (by omega) hM hb) f1 FrPm.rf
    exact ⟨_, _, rfl, dm b.2, d⟩
