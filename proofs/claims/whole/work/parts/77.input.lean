/-! ===== bytes of the input come into the text ===== -/
def emp (B : Bx) : Bx := (0, B.2)
theorem emp_w {B : Bx} (h : WB B) : WB (emp B) := ⟨Int.le_refl 0, by show (0 : Int) ≤ 600; omega, fun j j0 j1 => by have j1 : j < 0 := j1; omega, h.2.2.2.1, h.2.2.2.2⟩
theorem CI.emp {T : Tx} {G : Sn} {B : Bx} {M M' : Mem} (hW : WT T) (h : CI T G B M) (e : ∀ b i, M' b i = if b = 1 ∧ i = 1 then 0 else M b i) : CI T G (emp B) M' := by
  obtain ⟨h1, h2, h3, h4, h5, h6, h7, h8⟩ := h
  have o : ∀ c i, c ≠ 1 → M' c i = M c i := fun c i hc => by rw [e, if_neg (by omega)]
  refine ⟨h1.same (fun i => o _ i (by omega)) (fun i => o _ i (by omega)) (fun i => o _ i (by omega)), h2.same hW.2.1.2.1 (fun c i hc => o c i (by omega)), h3.same (fun c i hc => o c i (by omega)), h4.same (fun c i hc => o c i (by omega)), ⟨by rw [e, if_pos ⟨rfl, rfl⟩]; rfl, fun j j0 j1 => by have j1 : j < 0 := j1; omega⟩, (o 0 15 (by omega)).trans h6, h7.same (fun c i hc => o c i (by omega)), fun x => ?_, fun x => ?_⟩
  · exact (h8.1 (by rw [← o 0 16 (by omega)]; exact x)).same (fun c i _ _ => o c i (by omega))
  · exact (h8.2 (by rw [← o 0 17 (by omega)]; exact x)).same (fun c i _ => o c i (by omega))
theorem MoI.emp {T : Tx} {G : Sn} {B : Bx} {M M' : Mem} (h : MoI T G B M) (e : ∀ b i, M' b i = if b = 84 ∧ i = 16 then 0 else M b i) : MoI T G (emp B) M' ∧ FrM M M' ∧ M' 84 0 = M 84 0 := by
  obtain ⟨h1, h2, h3, h4, h5, h6, h7⟩ := h
  have o : ∀ c i, ¬ (c = 84 ∧ i = 16) → M' c i = M c i := fun c i hc => by rw [e, if_neg hc]
  exact ⟨⟨h1.same (fun i => o 90 i (by omega)), h2.same (fun c i hc => o c i (by omega)), h3.same (fun c i hc => o c i (by omega)), h4.same (fun c i hc => o c i (by omega)), ⟨by rw [e, if_pos ⟨rfl, rfl⟩]; rfl, fun j j0 j1 => by have j1 : j < 0 := j1; omega⟩, (o 84 23 (by omega)).trans h6, h7.same (fun c i hc => o c i (by omega))⟩, fun c i hc => o c i (by omega), o 84 0 (by omega)⟩
def allT (inp : Int → Int) (n : Int) : Prop := ∀ j, 0 ≤ j → j < n → isTxt (inp j)
theorem isTextByte_at (v : Int) (M : Mem) : Ok (f_X9_isTextByte v M) (fun r => (r = 1 ∧ isTxt v) ∨ (r = 0 ∧ ¬ isTxt v)) := by
  unfold f_X9_isTextByte isTxt
  exact .ifC (fun _ => .ret (by omega)) (fun _ => .ifC (fun _ => .ret (by omega)) (fun _ => .ifC (fun _ => .ret (by omega)) (fun _ => .ret (by omega))))
theorem isText_L {inp : Int → Int} {n : Int} {M : Mem} (hn : n ≤ 600) (h : ∀ j, 0 ≤ j → j < n → M 2 j = inp j) : ∀ (r fuel : Nat) (k : Int), (n - k).toNat = r → r < fuel → 0 ≤ k → (∀ j, 0 ≤ j → j < k → isTxt (inp j)) → Ok (f_X1_isText_L2 fuel n k M) (fun r => (r = 1 ∧ allT inp n) ∨ (r = 0 ∧ ¬ allT inp n)) := by
  intro r
  induction r with
  | zero =>
    intro fuel k hr hf hk hq
    obtain ⟨fuel, rfl⟩ : ∃ f, fuel = f + 1 := ⟨fuel - 1, by omega⟩
    rw [f_X1_isText_L2]
    exact .ifT (by omega) (.ret (Or.inl ⟨rfl, fun j j0 j1 => hq j j0 (by omega)⟩))
  | succ r ih =>
    intro fuel k hr hf hk hq
    obtain ⟨fuel, rfl⟩ : ∃ f, fuel = f + 1 := ⟨fuel - 1, by omega⟩
    rw [f_X1_isText_L2]
    refine .ifF (by omega) (.bind (.val (ibyteAt_ok k M)) (fun p hp => .bind (isTextByte_at p M) (fun z hz => ?_)))
    rw [if_pos (by omega), h k hk (by omega)] at hp
    subst hp
    refine .ifC (fun h0 => .ret (Or.inr ⟨rfl, fun c => ?_⟩)) (fun h0 => .let fun u eu => ?_)
    · have := c k hk (by omega)
      rcases hz with hz | hz
      · omega
      · exact hz.2 this
    · rw [w32_of (by omega) (by omega)] at eu
      subst eu
      refine ih fuel (k + 1) (by omega) (by omega) (by omega) (fun j j0 j1 => ?_)
      by_cases e : j = k
      · subst e
        rcases hz with hz | hz
        · exact hz.2
        · omega
      · exact hq j j0 (by omega)
theorem c_refusal {B : Bx} {M : Mem} (hB : WB B) (h : CIn B.1 B.2.1 M) {n had : Int} (hn : 0 ≤ n ∧ n ≤ B.1) (hh : 0 ≤ had ∧ had ≤ 240) : Ok (f_X9_refusalOf n had M) (fun r => (had + n ≤ 240 → allT B.2.1 n → r = 0) ∧ (had + n ≤ 240 → ¬ allT B.2.1 n → r = -3) ∧ (¬ had + n ≤ 240 → r = -2)) := by
  have b600 := hB.2.1
  unfold f_X9_refusalOf
  rw [w32_of (by omega) (by omega)]
  refine .ifC (fun hc => ?_) (fun hc => .ret ⟨fun x => absurd x (by omega), fun x => absurd x (by omega), fun _ => rfl⟩)
  unfold f_X1_isText
  refine .bind (isText_L (inp := B.2.1) (by omega) (fun j j0 j1 => h.2 j j0 (by omega)) (n - 0).toNat 4096 0 rfl (by omega) (by omega) (fun j j0 j1 => by omega)) (fun z hz => ?_)
  rcases hz with ⟨hz, ha⟩ | ⟨hz, ha⟩
  · exact .ifF (by omega) (.ret ⟨fun _ _ => rfl, fun _ x => absurd ha x, fun x => absurd x (by omega)⟩)
  · exact .ifT hz (.ret ⟨fun _ x => absurd x ha, fun _ _ => rfl, fun x => absurd x (by omega)⟩)
theorem canBe_at (v : Int) (M : Mem) : Ok (f_X10_canBe v M) (fun r => (r = 1 ∧ isTxt v) ∨ (r = 0 ∧ ¬ isTxt v)) := by
  unfold f_X10_canBe isTxt
  refine .ifC (fun _ => .ret (by omega)) (fun _ => ?_)
  by_cases h : 32 ≤ v ∧ v ≤ 126
  · exact .bind (.val (isIn_y M h)) (fun z hz => .ifF (by omega) (.ret (by omega)))
  · exact .bind (.val (isIn_n M h)) (fun z hz => .ifT hz (.ret (by omega)))
theorem m_refusal_L {inp : Int → Int} {n : Int} {M : Mem} (hn : n ≤ 600) (h : ∀ j, 0 ≤ j → j < n → M 91 j % 256 = inp j) : ∀ (r fuel : Nat) (k : Int), (n - k).toNat = r → r < fuel → 0 ≤ k → (∀ j, 0 ≤ j → j < k → isTxt (inp j)) → Ok (f_X10_refusal_L14 fuel n k M) (fun r => (r = 0 ∧ allT inp n) ∨ (r = -3 ∧ ¬ allT inp n)) := by
  intro r
  induction r with
  | zero =>
    intro fuel k hr hf hk hq
    obtain ⟨fuel, rfl⟩ : ∃ f, fuel = f + 1 := ⟨fuel - 1, by omega⟩
    rw [f_X10_refusal_L14]
    exact .ifT (by omega) (.ret (Or.inl ⟨rfl, fun j j0 j1 => hq j j0 (by omega)⟩))
  | succ r ih =>
    intro fuel k hr hf hk hq
    obtain ⟨fuel, rfl⟩ : ∃ f, fuel = f + 1 := ⟨fuel - 1, by omega⟩
    rw [f_X10_refusal_L14, ian_mod, h k hk (by omega)]
    refine .ifF (by omega) (.ifT (by omega) (.bind (canBe_at (inp k) M) (fun z hz => ?_)))
    refine .ifC (fun h0 => .ret (Or.inr ⟨rfl, fun c => ?_⟩)) (fun h0 => .let fun u eu => ?_)
    · have := c k hk (by omega)
      rcases hz with hz | hz
      · omega
      · exact hz.2 this
    · rw [w32_of (by omega) (by omega)] at eu
      subst eu
      refine ih fuel (k + 1) (by omega) (by omega) (by omega) (fun j j0 j1 => ?_)
      by_cases e : j = k
      · subst e
        rcases hz with hz | hz
        · exact hz.2
        · omega
      · exact hq j j0 (by omega)
/-- the bytes themselves stay, when the input is told to be empty -/
def Byt (B : Bx) (M : Mem) : Prop := ∀ j, 0 ≤ j → j < B.1 → M 91 j % 256 = B.2.1 j ∧ -128 ≤ M 91 j ∧ M 91 j < 128
theorem m_refusal {B : Bx} {M : Mem} (hB : WB B) (h : Byt B M) {n had : Int} (hn : 0 ≤ n ∧ n ≤ B.1) (hh : 0 ≤ had ∧ had ≤ 240) : Ok (f_X10_refusal had n M) (fun r => (had + n ≤ 240 → allT B.2.1 n → r = 0) ∧ (had + n ≤ 240 → ¬ allT B.2.1 n → r = -3) ∧ (¬ had + n ≤ 240 → r = -2)) := by
  have b600 := hB.2.1
  unfold f_X10_refusal
  rw [w32_of (by omega) (by omega)]
  refine .ifC (fun hc => ?_) (fun hc => .ret ⟨fun x => absurd x (by omega), fun x => absurd x (by omega), fun _ => rfl⟩)
  refine (m_refusal_L (inp := B.2.1) (by omega) (fun j j0 j1 => (h j j0 (by omega)).1) (n - 0).toNat 4096 0 rfl (by omega) (by omega) (fun j j0 j1 => by omega)).mono (fun z hz => ?_)
  rcases hz with ⟨hz, ha⟩ | ⟨hz, ha⟩
  · exact ⟨fun _ _ => hz, fun _ x => absurd ha x, fun x => absurd x (by omega)⟩
  · exact ⟨fun _ x => absurd x ha, fun _ _ => hz, fun x => absurd x (by omega)⟩
theorem askInput_y {B : Bx} {M : Mem} (h : CIn B.1 B.2.1 M) {v : Int} (hv : 0 ≤ v ∧ v ≤ B.1) : f_X9_askInput v M = some (0, 0, M) := by
  unfold f_X9_askInput
  rw [h.1, if_neg (by omega), if_pos (by omega)]
theorem askInput_n {B : Bx} {M : Mem} (h : CIn B.1 B.2.1 M) {v : Int} (hv : ¬ (0 ≤ v ∧ v ≤ B.1)) : f_X9_askInput v M = some (2, 0, M) := by
  unfold f_X9_askInput
  rw [h.1]
  by_cases x : v < 0
  · rw [if_pos x]
  · rw [if_neg x, if_neg (by omega)]
theorem putN_eqv {P : Pg} {a n : Int} {s s' : Int → Int} (h : ∀ j, 0 ≤ j → j < n → s' j = s j) : PgE (putN P a n s) (putN P a n s') := by
  refine ⟨rfl, rfl, rfl, rfl, rfl, rfl, fun p p0 p1 => ?_, fun k k0 k1 => rfl⟩
  show (if p < a then P.b p else if p < a + n then s' (p - a) else P.b (p - n)) = (if p < a then P.b p else if p < a + n then s (p - a) else P.b (p - n))
  by_cases h1 : p < a
  · rw [if_pos h1, if_pos h1]
  · rw [if_neg h1, if_neg h1]
    by_cases h2 : p < a + n
    · rw [if_pos h2, if_pos h2, h _ (by omega) (by omega)]
    · rw [if_neg h2, if_neg h2]
theorem putN_more {P : Pg} {a m c : Int} {s s' : Int → Int} (hm : 0 ≤ m) (h0 : s' 0 = c) (h : ∀ j, 0 ≤ j → j < m → s' (j + 1) = s j) : PgE (putN (putN P a m s) a 1 (fun _ => c)) (putN P a (m + 1) s') := by
  refine ⟨by show P.len + (m + 1) = P.len + m + 1; omega, rfl, rfl, rfl, rfl, rfl, fun p p0 p1 => ?_, fun k k0 k1 => ?_⟩
  · show (if p < a then P.b p else if p < a + (m + 1) then s' (p - a) else P.b (p - (m + 1))) = (if p < a then (if p < a then P.b p else if p < a + m then s (p - a) else P.b (p - m)) else if p < a + 1 then c else (if p - 1 < a then P.b (p - 1) else if p - 1 < a + m then s (p - 1 - a) else P.b (p - 1 - m)))
    by_cases h1 : p < a
    · rw [if_pos h1, if_pos h1, if_pos h1]
    · rw [if_neg h1, if_neg h1]
      by_cases h2 : p < a + 1
      · rw [if_pos (by omega), if_pos h2, show p - a = 0 by omega, h0]
      · rw [if_neg h2, if_neg (c := p - 1 < a) (by omega)]
        by_cases h3 : p < a + (m + 1)
        · rw [if_pos h3, if_pos (by omega), ← h _ (by omega) (by omega), show p - 1 - a + 1 = p - a by omega]
        · rw [if_neg h3, if_neg (by omega), show p - (m + 1) = p - 1 - m by omega]
  · show (if a ≤ P.m k then P.m k + (m + 1) else P.m k) = (if a ≤ (if a ≤ P.m k then P.m k + m else P.m k) then (if a ≤ P.m k then P.m k + m else P.m k) + 1 else (if a ≤ P.m k then P.m k + m else P.m k))
    by_cases h1 : a ≤ P.m k
    · rw [if_pos h1, if_pos h1, if_pos (by omega)]; omega
    · rw [if_neg h1, if_neg h1, if_neg h1]
theorem m_insert_L {P : Pg} {B : Bx} (hW : Wf P) (hB : WB B) {a n : Int} (ha : 0 ≤ a ∧ a ≤ P.len) (hn : 0 ≤ n ∧ n ≤ B.1) (hl : P.len + n ≤ 240) (ht : allT B.2.1 n) : ∀ (r fuel : Nat) (k : Int) (M : Mem), r < fuel → (r : Int) ≤ n → k = (r : Int) - 1 → Byt B M → PgM M 90 0 (putN P a (n - r) (fun i => B.2.1 (r + i))) → Ok (f_X10_insert_L91 fuel a k M) (fun q => q.1 = P.len + n ∧ PgM q.2 90 0 (putN P a n B.2.1) ∧ Fr1 M q.2 90) := by
  have b600 := hB.2.1
  intro r
  induction r with
  | zero =>
    intro fuel k M hf hr hk hb hP
    obtain ⟨fuel, rfl⟩ : ∃ f, fuel = f + 1 := ⟨fuel - 1, by omega⟩
    have hP2 : PgM M 90 0 (putN P a n B.2.1) := by
      have e : n - ((0 : Nat) : Int) = n := by omega
      rw [e] at hP
      exact hP.eqv (putN_eqv (fun j _ _ => by rw [show ((0 : Nat) : Int) + j = j by omega]))
    rw [f_X10_insert_L91]
    exact .ifT (by omega) (.ret ⟨hP2.1, hP2, fun _ _ _ => rfl⟩)
  | succ r ih =>
    intro fuel k M hf hr hk hb hP
    obtain ⟨fuel, rfl⟩ : ∃ f, fuel = f + 1 := ⟨fuel - 1, by omega⟩
    have hk2 : k = (r : Int) := by omega
    subst hk2
    have by_ := hb r (by omega) (by omega)
    have tx := ht r (by omega) (by omega)
    have er : M 91 r = B.2.1 r := by unfold isTxt at tx; omega
    have wf := putN_wf hW (a := a) (n := n - ((r + 1 : Nat) : Int)) (s := fun i => B.2.1 (((r + 1 : Nat) : Int) + i)) ha.1 ha.2 (by omega) (by omega) (fun p p0 p1 => ht _ (by omega) (by omega))
    rw [f_X10_insert_L91, er]
    refine .ifF (by omega) (.ifT (by omega) (.bind (puts_ok a (B.2.1 r) M hP wf ha.1 (by show a ≤ P.len + (n - ((r + 1 : Nat) : Int)); omega) (by show P.len + (n - ((r + 1 : Nat) : Int)) + 1 ≤ 240; omega)) (fun M1 ⟨c1, c2⟩ => .let fun u eu => ?_)))
    rw [w32_of (by omega) (by omega)] at eu
    have e2 : n - ((r + 1 : Nat) : Int) + 1 = n - (r : Int) := by omega
    have c3 := c1.eqv (putN_more (s' := fun i => B.2.1 ((r : Int) + i)) (by omega) (by show B.2.1 ((r : Int) + 0) = _; rw [Int.add_zero]) (fun j _ _ => by show B.2.1 ((r : Int) + (j + 1)) = B.2.1 (((r + 1 : Nat) : Int) + j); rw [show (r : Int) + (j + 1) = ((r + 1 : Nat) : Int) + j by omega]))
    rw [e2] at c3
    exact (ih fuel u M1 (by omega) (by omega) (by omega) (fun j j0 j1 => by rw [c2 91 (by omega) j]; exact hb j j0 j1) c3).mono (fun q ⟨q1, q2, q3⟩ => ⟨q1, q2, c2.trans q3⟩)
theorem law_22_ok {T : Tx} {G : Sn} {B : Bx} {M : Mem} (v1 v2 : Int) (hW : WT T) (hB : WB B) (hC : CI T G B M) (hM : MoI T G B M) : Ok (f_law_22 v1 v2 M) (fun M' => ∃ T' B', WT T' ∧ WB B' ∧ CI T' G B' M' ∧ MoI T' G B' M') := by
  have l0 := hW.1.l0
  have l1 := hW.1.l1
  have b600 := hB.2.1
  unfold f_law_22 f_L_insert
  by_cases hp : 0 ≤ v1 ∧ v1 ≤ T.1.len
  · by_cases hn : 0 ≤ v2 ∧ v2 ≤ B.1
    · have mpre : ∀ (Q : Int × Mem → Prop) (M1 : Mem), MoI T G B M1 → (∀ M3 : Mem, MoI T G (emp B) M3 → FrM M1 M3 → M3 84 0 = 0 → Byt B M3 → Ok ((f_X10_refusal (M3 90 0) v2 M3).bind fun p72 => if p72 = 0 then (f_X10_keeps M3).bind fun p83 => lt1 (w32 (v2 - 1)) fun v4_89 => f_X10_insert_L91 4096 v1 v4_89 p83 else some (p72, M3)) Q) → Ok (f_X10_insert v1 v2 M1) Q := by
        intro Q M1 h1 K
        unfold f_X10_insert
        refine .put fun M2 e2 => ?_
        obtain ⟨a1, a2, a3⟩ := h1.put0 e2
        rw [show M2 90 0 = T.1.len from a1.1.1]
        refine .bind (.val (isIn_y M2 hp)) (fun z hz => .ifF (by omega) (.bind (.val (throws_no 1 a3)) (fun p hp => ?_)))
        subst hp
        refine .ifT rfl (.bind (.val (isIn_y M2 (by show 0 ≤ v2 ∧ v2 ≤ M2 84 16; rw [a1.2.2.2.2.1.1]; exact hn))) (fun z hz => .ifF (by omega) (.bind (.val (throws_no 2 a3)) (fun p hp => ?_))))
        subst hp
        refine .ifT rfl (.put fun M3 e3 => ?_)
        obtain ⟨c1, c2, c3⟩ := a1.emp e3
        exact K M3 c1 (a2.trans c2) (c3.trans a3) (fun j j0 j1 => by rw [e3, if_neg (by omega)]; exact a1.2.2.2.2.1.2 j j0 j1)
      by_cases hok : T.1.len + v2 ≤ 240 ∧ allT B.2.1 v2
      · have wN : Wf (putN T.1 v1 v2 B.2.1) := putN_wf hW.1 hp.1 hp.2 hn.1 hok.1 hok.2
        have hW' : WT (putN T.1 v1 v2 B.2.1, (pushT T).2) := (pushT_w hW).page wN
        refine (lawW (T' := (putN T.1 v1 v2 B.2.1, (pushT T).2)) (B' := emp B) 0 0 (T.1.len + v2) hM ?_ hW' (fun _ _ => rfl) (by decide) (fun M1 h1 => ?_)).mono (fun M' h => ⟨_, _, hW', emp_w hB, h⟩)
        · unfold f_X9_insert
          refine .bind (.val (askPlace_y hC.1 hp)) (fun z hz => ?_)
          subst hz
          refine .ifT rfl (.bind (.val (askInput_y hC.2.2.2.2.1 hn)) (fun z hz => ?_))
          subst hz
          refine .ifT rfl (.bind (c_refusal hB hC.2.2.2.2.1 hn (by show 0 ≤ M 14 2 ∧ M 14 2 ≤ 240; rw [hC.1.1]; exact ⟨l0, l1⟩)) (fun r ⟨r1, r2, r3⟩ => ?_))
          have r0 := r1 (by show M 14 2 + v2 ≤ 240; rw [hC.1.1]; exact hok.1) hok.2
          refine .ifT r0 (.bind (c_begin hW hC) (fun M1 ⟨a1, a2, a3, a4⟩ => .bind (putIn_ok 14 (by omega) (by omega) (by omega) v1 v2 M1 a1.1 hW.1 hp.1 hp.2 hn.1 hok.1) (fun M2 ⟨b1, b2⟩ => ?_)))
          have b1' : PgC M2 14 (putN T.1 v1 v2 B.2.1) := b1.eqv (putN_eqv (fun j j0 j1 => (a1.2.2.2.2.1.2 j j0 (by omega)).symm))
          obtain ⟨c1, c2, c3, c4⟩ := a1.pageD (pushT_w hW) b1' b2 a3 a4
          unfold f_X9_insert_K44
          refine .put fun M3 e3 => .ifT r0 (.ret ⟨rfl, fun _ => ?_, c1.emp hW' e3, (a2.trans c2).trans (fun c i hc => (e3 c i).trans (if_neg (by omega)))⟩)
          show M3 14 2 = _
          rw [e3, if_neg (by omega)]
          exact b1'.1
        · refine mpre _ M1 h1 (fun M3 c1 c2 c3 c4 => ?_)
          have p0 : M3 90 0 = T.1.len := c1.1.1
          rw [p0]
          refine .bind (m_refusal hB c4 hn ⟨l0, l1⟩) (fun r ⟨r1, r2, r3⟩ => .ifT (r1 hok.1 hok.2) (.bind (m_keeps hW c1) (fun M4 ⟨k1, k2, k3, k4⟩ => .let fun u eu => ?_)))
          rw [w32_of (by omega) (by omega)] at eu
          refine (m_insert_L hW.1 hB hp hn hok.1 hok.2 v2.toNat 4096 u M4 (by omega) (by omega) (by omega) (fun j j0 j1 => by rw [k4 91 j (by omega) (by omega)]; exact c4 j j0 j1) ?_).mono (fun q ⟨q1, q2, q3⟩ => ?_)
          · refine k1.1.eqv ⟨by show T.1.len + (v2 - (v2.toNat : Int)) = T.1.len; omega, rfl, rfl, rfl, rfl, rfl, fun p p0 p1 => ?_, fun k k0 k1 => ?_⟩
            · show (if p < v1 then T.1.b p else if p < v1 + (v2 - (v2.toNat : Int)) then B.2.1 ((v2.toNat : Int) + (p - v1)) else T.1.b (p - (v2 - (v2.toNat : Int)))) = T.1.b p
              by_cases x : p < v1
              · rw [if_pos x]
              · rw [if_neg x, if_neg (by omega), show p - (v2 - (v2.toNat : Int)) = p by omega]
            · show (if v1 ≤ T.1.m k then T.1.m k + (v2 - (v2.toNat : Int)) else T.1.m k) = T.1.m k
              split <;> omega
          · obtain ⟨d1, d2, d3⟩ := k1.page q2 q3
            exact ⟨d3.trans (k3.trans c3), fun _ => q1, d1, (c2.trans k2).trans d2⟩
      · have ref : ∃ rv : Int, rv ≠ 0 ∧ ∀ r : Int, (T.1.len + v2 ≤ 240 → allT B.2.1 v2 → r = 0) ∧ (T.1.len + v2 ≤ 240 → ¬ allT B.2.1 v2 → r = -3) ∧ (¬ T.1.len + v2 ≤ 240 → r = -2) → r = rv := by
          by_cases h : T.1.len + v2 ≤ 240
          · exact ⟨-3, by decide, fun r hr => hr.2.1 h (fun x => hok ⟨h, x⟩)⟩
          · exact ⟨-2, by decide, fun r hr => hr.2.2 h⟩
        obtain ⟨rv, rv0, hrv⟩ := ref
        refine (lawW (B' := emp B) 0 0 rv hM ?_ hW (fun _ _ => rfl) (by decide) (fun M1 h1 => ?_)).mono (fun M' h => ⟨_, _, hW, emp_w hB, h⟩)
        · unfold f_X9_insert
          refine .bind (.val (askPlace_y hC.1 hp)) (fun z hz => ?_)
          subst hz
          refine .ifT rfl (.bind (.val (askInput_y hC.2.2.2.2.1 hn)) (fun z hz => ?_))
          subst hz
          refine .ifT rfl (.bind (c_refusal hB hC.2.2.2.2.1 hn (by show 0 ≤ M 14 2 ∧ M 14 2 ≤ 240; rw [hC.1.1]; exact ⟨l0, l1⟩)) (fun r hr => ?_))
          have e2 : M 14 2 = T.1.len := hC.1.1
          rw [show (0, 0, M).2.2 14 2 = T.1.len from e2] at hr
          have er := hrv r hr
          unfold f_X9_insert_K44
          refine .ifF (by omega) (.put fun M3 e3 => .ifF (by omega) (.ret ⟨rfl, fun _ => er, hC.emp hW e3, fun c i hc => (e3 c i).trans (if_neg (by omega))⟩))
        · refine mpre _ M1 h1 (fun M3 c1 c2 c3 c4 => ?_)
          have p0 : M3 90 0 = T.1.len := c1.1.1
          rw [p0]
          exact .bind (m_refusal hB c4 hn ⟨l0, l1⟩) (fun r hr => .ifF (by have := hrv r hr; omega) (.ret ⟨c3, fun _ => hrv r hr, c1, c2⟩))
    · refine (lawW 2 2 0 hM ?_ hW (fun _ _ => rfl) (by decide) (fun M1 h1 => ?_)).mono (fun M' h => ⟨T, B, hW, hB, h⟩)
      · unfold f_X9_insert
        refine .bind (.val (askPlace_y hC.1 hp)) (fun z hz => ?_)
        subst hz
        refine .ifT rfl (.bind (.val (askInput_n hC.2.2.2.2.1 hn)) (fun z hz => ?_))
        subst hz
        exact .ifF (by show ¬ (2 : Nat) = 0; decide) (.ret ⟨rfl, fun h => absurd h (by decide), hC, FrC.rf⟩)
      · unfold f_X10_insert
        refine .put fun M2 e2 => ?_
        obtain ⟨a1, a2, a3⟩ := h1.put0 e2
        rw [show M2 90 0 = T.1.len from a1.1.1]
        refine .bind (.val (isIn_y M2 hp)) (fun z hz => .ifF (by omega) (.bind (.val (throws_no 1 a3)) (fun p hp => ?_)))
        subst hp
        refine .ifT rfl (.bind (.val (isIn_n M2 (by show ¬ (0 ≤ v2 ∧ v2 ≤ M2 84 16); rw [a1.2.2.2.2.1.1]; exact hn))) (fun z hz => .ifT hz (.bind (throws_yes 2 (by decide) a3) (fun p ⟨p1, p2⟩ => .ifF (by omega) (.ret ?_)))))
        obtain ⟨c1, c2, c3⟩ := a1.put0 p2
        exact ⟨c3, fun h => absurd h (by decide), c1, a2.trans c2⟩
  · refine (lawW 1 1 0 hM ?_ hW (fun _ _ => rfl) (by decide) (fun M1 h1 => ?_)).mono (fun M' h => ⟨T, B, hW, hB, h⟩)
    · unfold f_X9_insert
      refine .bind (.val (askPlace_n hC.1 hp)) (fun z hz => ?_)
      subst hz
      exact .ifF (by show ¬ (1 : Nat) = 0; decide) (.ret ⟨rfl, fun h => absurd h (by decide), hC, FrC.rf⟩)
    · unfold f_X10_insert
      refine .put fun M2 e2 => ?_
      obtain ⟨a1, a2, a3⟩ := h1.put0 e2
      rw [show M2 90 0 = T.1.len from a1.1.1]
      refine .bind (.val (isIn_n M2 hp)) (fun z hz => .ifT hz (.bind (throws_yes 1 (by decide) a3) (fun p ⟨p1, p2⟩ => .ifF (by omega) (.ret ?_))))
      obtain ⟨c1, c2, c3⟩ := a1.put0 p2
      exact ⟨c3, fun h => absurd h (by decide), c1, a2.trans c2⟩
