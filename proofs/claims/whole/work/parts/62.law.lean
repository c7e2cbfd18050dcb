/-! ===== a call of both: the frames of the law's cases ===== -/
theorem lawW {M : Mem} {X : Option (Nat × Int × Mem)} {W : Nat × Int × Mem → Option (Int × Mem)} {Y : Mem → Option (Int × Mem)} {T T' : Tx} {G G' : Sn} {B B' : Bx} (tag : Nat) (code val : Int) (hM : MoI T G B M)
    (hX : Ok X (fun r => r.1 = tag ∧ (tag = 0 → r.2.1 = val) ∧ CI T' G' B' r.2.2 ∧ FrC M r.2.2)) (hT' : WT T')
    (hWr : ∀ v M1, W (tag, v, M1) = some (code, if tag = 0 then up M1 113 0 v else M1)) (hc : tag = 0 ↔ code = 0)
    (hY : ∀ M1, MoI T G B M1 → Ok (Y M1) (fun q => q.2 84 0 = code ∧ (code = 0 → q.1 = val) ∧ MoI T' G' B' q.2 ∧ FrM M1 q.2)) :
    Ok ((X.bind W).bind fun p => (Y p.2).bind fun q => (f_X10_thrown q.2).bind fun t => if t = p.1 then if p.1 = 0 then if q.2 113 0 = q.1 then some q.2 else none else some q.2 else none) (fun M' => CI T' G' B' M' ∧ MoI T' G' B' M') := by
  refine .bind (Q := fun p => p.1 = code ∧ (code = 0 → p.2 113 0 = val) ∧ CI T' G' B' p.2 ∧ MoI T G B p.2) (.bind hX (fun r hr => ?_)) (fun p hp => ?_)
  · obtain ⟨t, v, M1⟩ := r
    obtain ⟨h1, h2, h3, h4⟩ := hr
    have h1 : t = tag := h1
    subst h1
    rw [hWr]
    refine .ret ⟨rfl, fun h => ?_, ?_, ?_⟩
    · have ht := hc.mpr h
      show (if t = 0 then up M1 113 0 v else M1) 113 0 = val
      rw [if_pos ht]
      exact (if_pos ⟨rfl, rfl⟩).trans (h2 ht)
    · show CI T' G' B' (if t = 0 then up M1 113 0 v else M1)
      split
      · exact CI.same hT' h3 (fun c i hc => if_neg (by omega))
      · exact h3
    · show MoI T G B (if t = 0 then up M1 113 0 v else M1)
      have m1 : MoI T G B M1 := hM.same (fun c i hc _ => h4 c i hc)
      split
      · exact m1.same (fun c i hc hc2 => if_neg (by omega))
      · exact m1
  · obtain ⟨h1, h2, h3, h4⟩ := hp
    refine .bind (hY p.2 h4) (fun q ⟨q1, q2, q3, q4⟩ => .bind (.val (v := q.2 84 0) rfl) (fun t ht => ?_))
    have ht : t = code := ht.trans q1
    subst ht
    rw [h1]
    refine .ifT rfl ?_
    have fin : CI T' G' B' q.2 ∧ MoI T' G' B' q.2 := ⟨CI.same hT' h3 (fun c i hc => q4 c i (Or.inl hc)), q3⟩
    refine .ifC (fun h => .ifT ?_ (.ret fin)) (fun h => .ret fin)
    rw [q4 113 0 (Or.inr (Nat.le_refl _)), h2 h, q2 h]
theorem lawV {M : Mem} {X : Option (Int × Mem)} {Y : Mem → Option (Int × Mem)} {T T' : Tx} {G G' : Sn} {B B' : Bx} (val : Int) (hM : MoI T G B M) (hT' : WT T')
    (hX : Ok X (fun r => r.1 = val ∧ CI T' G' B' r.2 ∧ FrC M r.2)) (hY : ∀ M1, MoI T G B M1 → Ok (Y M1) (fun q => q.1 = val ∧ MoI T' G' B' q.2 ∧ FrM M1 q.2)) :
    Ok (X.bind fun p => (Y p.2).bind fun q => if p.1 = q.1 then some q.2 else none) (fun M' => CI T' G' B' M' ∧ MoI T' G' B' M') := by
  refine .bind hX (fun r ⟨r1, r2, r3⟩ => .bind (hY r.2 (hM.same (fun c i hc _ => r3 c i hc))) (fun q ⟨q1, q2, q3⟩ => .ifT (by rw [r1, q1]) (.ret ⟨CI.same hT' r2 (fun c i hc => q3 c i (Or.inl hc)), q2⟩)))
theorem lawD {M : Mem} {X : Option (Int × Int × Mem)} {Y : Mem → Option (Int × Int × Mem)} {T : Tx} {G : Sn} {B : Bx} (a b : Int) (hM : MoI T G B M) (hT' : WT T)
    (hX : Ok X (fun r => r.1 = a ∧ r.2.1 = b ∧ CI T G B r.2.2 ∧ FrC M r.2.2)) (hY : ∀ M1, MoI T G B M1 → Ok (Y M1) (fun q => q.1 = a ∧ q.2.1 = b ∧ MoI T G B q.2.2 ∧ FrM M1 q.2.2)) :
    Ok (X.bind fun p => (Y p.2.2).bind fun q => if p.1 = q.1 ∧ p.2.1 = q.2.1 then some q.2.2 else none) (fun M' => CI T G B M' ∧ MoI T G B M') := by
  refine .bind hX (fun r ⟨r1, r1b, r2, r3⟩ => .bind (hY r.2.2 (hM.same (fun c i hc _ => r3 c i hc))) (fun q ⟨q1, q1b, q2, q3⟩ => .ifT ⟨by rw [r1, q1], by rw [r1b, q1b]⟩ (.ret ⟨CI.same hT' r2 (fun c i hc => q3 c i (Or.inl hc)), q2⟩)))
/-! the model's guards -/
theorem isIn_at (v a b : Int) (M : Mem) : f_X10_isIn v a b M = some (if a ≤ v ∧ v ≤ b then 1 else 0) := by
  unfold f_X10_isIn
  by_cases h : v < a
  · rw [if_pos h, if_neg (by omega)]
  · rw [if_neg h]
    by_cases h2 : b < v
    · rw [if_pos h2, if_neg (by omega)]
    · rw [if_neg h2, if_pos (by omega)]
theorem isIn_y {v a b : Int} (M : Mem) (h : a ≤ v ∧ v ≤ b) : f_X10_isIn v a b M = some 1 := by rw [isIn_at, if_pos h]
theorem isIn_n {v a b : Int} (M : Mem) (h : ¬ (a ≤ v ∧ v ≤ b)) : f_X10_isIn v a b M = some 0 := by rw [isIn_at, if_neg h]
theorem throws_no (k : Int) {M : Mem} (h : M 84 0 = 0) : f_X10_throwsIf 0 k M = some (0, M) := by
  unfold f_X10_throwsIf
  rw [if_pos h, if_pos rfl, if_pos (by omega)]
theorem throws_yes (k : Int) (hk : 0 < k) {M : Mem} (h : M 84 0 = 0) : Ok (f_X10_throwsIf 1 k M) (fun p => p.1 = 1 ∧ ∀ b i, p.2 b i = if b = 84 ∧ i = 0 then k else M b i) := by
  unfold f_X10_throwsIf
  refine .ifT h (.ifF (by decide) (.put fun M1 e1 => .ifF ?_ (.ret ⟨rfl, e1⟩)))
  rw [e1, if_pos ⟨rfl, rfl⟩]
  omega
theorem MoI.put0 {T : Tx} {G : Sn} {B : Bx} {M M' : Mem} {v : Int} (h : MoI T G B M) (e : ∀ b i, M' b i = if b = 84 ∧ i = 0 then v else M b i) : MoI T G B M' ∧ FrM M M' ∧ M' 84 0 = v :=
  ⟨h.q (fun c i h0 h1 hq => by rw [e, if_neg (by unfold QM at hq; omega)]), fun c i hc => by rw [e, if_neg (by omega)], by rw [e, if_pos ⟨rfl, rfl⟩]⟩
/-- what the model knows when it has found the pairs -/
def MF (T : Tx) (G : Sn) (M : Mem) : Prop := MB (Rof G.1 T.1) (Pt G.1 T.1) (Nn T.1) M ∧ ∀ p : Nat, p < Nn T.1 → M 92 p = hd G.1 T.1.b (-1) p
theorem hR_of {G : Sn} (hG : WG G) (P : Pg) : RB7 (Rof G.1 P) := rl_bd hG.r10 P.b (-1)
theorem PS_of {G : Sn} (hG : WG G) (P : Pg) : PS (Rof G.1 P) (Nn P) (Pt G.1 P) := (pairs_keep (hR_of hG P) (Nn P)).1
theorem m_find {T : Tx} {G : Sn} {B : Bx} {M : Mem} (hW : WT T) (hG : WG G) (h : MoI T G B M) : Ok (f_X10_findsPairs M) (fun M' => MF T G M' ∧ MoI T G B M' ∧ FrM M M' ∧ M' 84 0 = M 84 0 ∧ ∀ c i, ¬ QM c i → M' c i = M c i) := by
  have hN := Nn_is hW.1
  unfold f_X10_findsPairs
  refine .bind (finds_ok (-1) hW.1 hG.2.1 M h.1 h.2.2.2.1.1) (fun M1 ⟨hF, fr1⟩ => ?_)
  have hA : MA (Rof G.1 T.1) (Nn T.1) M1 := hF.ma
  refine (f_L9_ok hN.2 (hR_of hG T.1) 0 (by omega) 4096 0 0 M1 (by omega) rfl rfl hA trivial (fun p hp => by omega)).mono (fun M2 ⟨hP, fr2⟩ => ?_)
  have oth : ∀ c i, ¬ ((c = 84 ∧ i = 26) ∨ (92 ≤ c ∧ c ≤ 97)) → M2 c i = M c i := fun c i hc => by
    rw [fr2 c i (by omega) (by omega), fr1 c i (by omega) (by omega) (by omega) (by omega) (by omega)]
  refine ⟨⟨⟨hN.2, hR_of hG T.1, PS_of hG T.1, hA.same (fun c i hc => fr2 c i (by omega) (by omega)), hP⟩, fun p hp => ?_⟩, h.q (fun c i h0 h1 hq => oth c i (by unfold QM at hq; omega)), fun c i hc => oth c i (by omega), oth 84 0 (by omega), fun c i hq => oth c i (by unfold QM at hq; omega)⟩
  rw [fr2 92 p (by omega) (by omega)]
  exact hF.2.1 p hp (by omega)
theorem m_noPlace {T : Tx} {G : Sn} {B : Bx} {M : Mem} (hW : WT T) (hG : WG G) (h : MoI T G B M) (v : Int) :
    Ok (f_X10_noPlace v M) (fun p => p.1 = (if 0 ≤ v ∧ v < T.1.len then 0 else 1) ∧ p.2 84 0 = (if 0 ≤ v ∧ v < T.1.len then 0 else 1) ∧ MF T G p.2 ∧ MoI T G B p.2 ∧ FrM M p.2) := by
  have l0 := hW.1.l0
  have l1 := hW.1.l1
  unfold f_X10_noPlace
  refine .put fun M1 e1 => ?_
  obtain ⟨a1, a2, a3⟩ := h.put0 e1
  refine .bind (m_find hW hG a1) (fun M2 ⟨b1, b2, b3, b4, b5⟩ => ?_)
  have p0 : M2 90 0 = T.1.len := b2.1.1
  rw [p0, w32_of (by omega) (by omega)]
  by_cases hc : 0 ≤ v ∧ v < T.1.len
  · rw [if_pos hc]
    refine .bind (.val (isIn_y M2 (by omega))) (fun z hz => .ifF (by omega) (.bind (.val (throws_no 1 (b4.trans a3))) (fun p hp => ?_)))
    subst hp
    exact .ifT (Or.inl rfl) (.ret ⟨rfl, b4.trans a3, b1, b2, a2.trans b3⟩)
  · rw [if_neg hc]
    refine .bind (.val (isIn_n M2 (by omega))) (fun z hz => .ifT hz (.bind (throws_yes 1 (by decide) (b4.trans a3)) (fun p ⟨p1, p2⟩ => .ifT (Or.inr p1) (.ret ?_))))
    obtain ⟨c1, c2, c3⟩ := b2.put0 p2
    refine ⟨p1, c3, ⟨?_, fun q hq => by rw [p2, if_neg (by omega)]; exact b1.2 q hq⟩, c1, (a2.trans b3).trans c2⟩
    obtain ⟨z1, z2, z3, z4, z5⟩ := b1.1
    exact ⟨z1, z2, z3, z4.same (fun c i hc => by rw [p2, if_neg (by omega)]), fun q hq hr => by rw [p2, if_neg (by omega)]; exact z5 q hq hr⟩
/-! lines and columns -/
def lnc (b : Int → Int) (n : Nat) : Int := sm (fun p => if b p = 10 then 1 else 0) n
theorem lnc_bd (b : Int → Int) (n : Nat) : 0 ≤ lnc b n ∧ lnc b n ≤ n := sm_bd (fun k => by show 0 ≤ (if b k = 10 then (0 : Int) + 1 else 0) ∧ (if b k = 10 then (0 : Int) + 1 else 0) ≤ 1; split <;> omega) n
theorem c_lineOf_L {P : Pg} (hW : Wf P) {M : Mem} (hP : PgC M 14 P) (v : Nat) (hv : (v : Int) ≤ P.len) : ∀ (r fuel n : Nat) (a b : Int), v - n = r → r < fuel → n ≤ v → b = n → a = lnc P.b n → f_X4_lineOf_L4 fuel 14 v a b M = some (lnc P.b v) := by
  have l1 := hW.l1
  intro r
  induction r with
  | zero =>
    intro fuel n a b hr hf hn hb ha
    obtain ⟨fuel, rfl⟩ : ∃ f, fuel = f + 1 := ⟨fuel - 1, by omega⟩
    have : n = v := by omega
    subst this
    rw [f_X4_lineOf_L4, if_pos (by omega), ha]
  | succ r ih =>
    intro fuel n a b hr hf hn hb ha
    obtain ⟨fuel, rfl⟩ : ∃ f, fuel = f + 1 := ⟨fuel - 1, by omega⟩
    subst hb
    have bd := lnc_bd P.b n
    have p2 : M 14 2 = P.len := hP.1
    have pb : M (14 + 1) n = P.b n := hP.2.2.2.2.2.2.1 n (by omega) (by omega)
    have e : lnc P.b (n + 1) = lnc P.b n + (if P.b n = 10 then 1 else 0) := rfl
    rw [f_X4_lineOf_L4, if_neg (by omega), if_neg (by omega), if_pos (by omega), pb]
    simp only [lt1_e]
    by_cases h : P.b n = 10
    · rw [if_pos h] at e ⊢
      rw [w32_of (i := a + 1) (by omega) (by omega), w32_of (by omega) (by omega)]
      exact ih fuel (n + 1) _ _ (by omega) (by omega) (by omega) (by omega) (by omega)
    · rw [if_neg h] at e ⊢
      rw [w32_of (by omega) (by omega)]
      exact ih fuel (n + 1) _ _ (by omega) (by omega) (by omega) (by omega) (by omega)
theorem c_lineOf {P : Pg} (hW : Wf P) {M : Mem} (hP : PgC M 14 P) (v : Nat) (hv : (v : Int) ≤ P.len) : f_X4_lineOf 14 v M = some (lnc P.b v) := by
  have l1 := hW.l1
  exact c_lineOf_L hW hP v hv v 4096 0 0 0 (by omega) (by omega) (by omega) rfl rfl
theorem m_lineOf_L {P : Pg} (hW : Wf P) {M : Mem} (hP : PgM M 90 0 P) (v : Nat) (hv : (v : Int) ≤ P.len) : ∀ (r fuel n : Nat) (a b : Int), v - n = r → r < fuel → n ≤ v → b = n → a = lnc P.b n → f_X10_lineOf_L4 fuel v a b M = some (lnc P.b v) := by
  have l1 := hW.l1
  intro r
  induction r with
  | zero =>
    intro fuel n a b hr hf hn hb ha
    obtain ⟨fuel, rfl⟩ : ∃ f, fuel = f + 1 := ⟨fuel - 1, by omega⟩
    have : n = v := by omega
    subst this
    rw [f_X10_lineOf_L4, if_pos (by omega), ha]
  | succ r ih =>
    intro fuel n a b hr hf hn hb ha
    obtain ⟨fuel, rfl⟩ : ∃ f, fuel = f + 1 := ⟨fuel - 1, by omega⟩
    subst hb
    have bd := lnc_bd P.b n
    have pb : M 90 (14 + (n : Int)) = P.b n := by have := hP.2.2.2.2.2.2.1 n (by omega) (by omega); rw [Int.zero_add] at this; exact this
    have e : lnc P.b (n + 1) = lnc P.b n + (if P.b n = 10 then 1 else 0) := rfl
    rw [f_X10_lineOf_L4, w32_of (i := 14 + (n : Int)) (by omega) (by omega), if_neg (by omega), if_pos (by omega), pb]
    simp only [lt1_e]
    by_cases h : P.b n = 10
    · rw [if_pos h] at e ⊢
      rw [w32_of (i := a + 1) (by omega) (by omega), w32_of (by omega) (by omega)]
      exact ih fuel (n + 1) _ _ (by omega) (by omega) (by omega) (by omega) (by omega)
    · rw [if_neg h] at e ⊢
      rw [w32_of (i := a + 0) (by omega) (by omega), w32_of (by omega) (by omega)]
      exact ih fuel (n + 1) _ _ (by omega) (by omega) (by omega) (by omega) (by omega)
theorem m_lineOf {P : Pg} (hW : Wf P) {M : Mem} (hP : PgM M 90 0 P) (v : Nat) (hv : (v : Int) ≤ P.len) : f_X10_lineOf v M = some (lnc P.b v) := by
  have l1 := hW.l1
  exact m_lineOf_L hW hP v hv v 4096 0 0 0 (by omega) (by omega) (by omega) rfl rfl
/-- the column of a place -/
def clm (b : Int → Int) : Nat → Int
  | 0 => 0
  | n + 1 => if b n = 10 then 0 else clm b n + 1
theorem clm_bd (b : Int → Int) : ∀ n : Nat, 0 ≤ clm b n ∧ clm b n ≤ n := by
  intro n
  induction n with
  | zero => exact ⟨Int.le_refl 0, Int.le_refl 0⟩
  | succ n ih => rw [clm]; split <;> omega
theorem c_columnOf_L {P : Pg} (hW : Wf P) {M : Mem} (hP : PgC M 14 P) (v : Nat) (hv : (v : Int) ≤ P.len) : ∀ (n fuel : Nat) (b : Int), n < fuel → n ≤ v → b = (v : Int) - n → f_X4_columnOf_L2 fuel 14 v b M = some (b + clm P.b n) := by
  have l1 := hW.l1
  have p2 : M 14 2 = P.len := hP.1
  intro n
  induction n with
  | zero =>
    intro fuel b hf hn hb
    obtain ⟨fuel, rfl⟩ : ∃ f, fuel = f + 1 := ⟨fuel - 1, by omega⟩
    rw [f_X4_columnOf_L2, if_pos (by omega)]
    exact congrArg some (by show b = b + 0; omega)
  | succ n ih =>
    intro fuel b hf hn hb
    obtain ⟨fuel, rfl⟩ : ∃ f, fuel = f + 1 := ⟨fuel - 1, by omega⟩
    have pb : M (14 + 1) n = P.b n := hP.2.2.2.2.2.2.1 n (by omega) (by omega)
    rw [f_X4_columnOf_L2, if_neg (by omega), w32_of (i := (v : Int) - b) (by omega) (by omega), w32_of (i := (v : Int) - b - 1) (by omega) (by omega), show (v : Int) - b - 1 = (n : Int) by omega, pbyteAt_ok 14 n M (by omega), if_pos (by omega), pb, clm]
    simp only [Option.bind_some, lt1_e]
    by_cases h : P.b n = 10
    · rw [if_pos h, if_pos h]
      exact congrArg some (by omega)
    · rw [if_neg h, if_neg h, w32_of (by omega) (by omega), ih fuel (b + 1) (by omega) (by omega) (by omega)]
      exact congrArg some (by omega)
theorem c_columnOf {P : Pg} (hW : Wf P) {M : Mem} (hP : PgC M 14 P) (v : Nat) (hv : (v : Int) ≤ P.len) : f_X4_columnOf 14 v M = some (clm P.b v) := by
  have l1 := hW.l1
  unfold f_X4_columnOf
  rw [c_columnOf_L hW hP v hv v 4096 0 (by omega) (Nat.le_refl _) (by omega)]
  exact congrArg some (by omega)
theorem m_columnOf_L {P : Pg} (hW : Wf P) {M : Mem} (hP : PgM M 90 0 P) (v : Nat) (hv : (v : Int) ≤ P.len) : ∀ (n fuel : Nat) (b : Int), n < fuel → n ≤ v → b = n → f_X10_columnOf_L2 fuel v b M = some (v - n + clm P.b n) := by
  have l1 := hW.l1
  intro n
  induction n with
  | zero =>
    intro fuel b hf hn hb
    obtain ⟨fuel, rfl⟩ : ∃ f, fuel = f + 1 := ⟨fuel - 1, by omega⟩
    rw [f_X10_columnOf_L2, if_pos (by omega), w32_of (by omega) (by omega)]
    exact congrArg some (by show (v : Int) - b = (v : Int) - ((0 : Nat) : Int) + 0; omega)
  | succ n ih =>
    intro fuel b hf hn hb
    obtain ⟨fuel, rfl⟩ : ∃ f, fuel = f + 1 := ⟨fuel - 1, by omega⟩
    subst hb
    have pb : M 90 (14 + (n : Int)) = P.b n := by have := hP.2.2.2.2.2.2.1 n (by omega) (by omega); rw [Int.zero_add] at this; exact this
    rw [f_X10_columnOf_L2, if_neg (by omega), w32_of (i := 14 + ((n + 1 : Nat) : Int)) (by omega) (by omega), w32_of (i := 14 + ((n + 1 : Nat) : Int) - 1) (by omega) (by omega), show 14 + ((n + 1 : Nat) : Int) - 1 = 14 + (n : Int) by omega, if_pos (by omega), pb, clm]
    simp only [lt1_e]
    by_cases h : P.b n = 10
    · rw [if_pos h, if_pos h, w32_of (by omega) (by omega)]
      exact congrArg some (by omega)
    · rw [if_neg h, if_neg h, w32_of (by omega) (by omega), ih fuel _ (by omega) (by omega) (by omega)]
      exact congrArg some (by omega)
theorem m_columnOf {P : Pg} (hW : Wf P) {M : Mem} (hP : PgM M 90 0 P) (v : Nat) (hv : (v : Int) ≤ P.len) : f_X10_columnOf v M = some (clm P.b v) := by
  have l1 := hW.l1
  unfold f_X10_columnOf
  rw [m_columnOf_L hW hP v hv v 4096 v (by omega) (Nat.le_refl _) rfl]
  exact congrArg some (by omega)
theorem hd_ge {ρ : Int → Int} (b : Int → Int) (sk : Int) (p : Nat) : 0 ≤ hd ρ b sk p := by
  unfold hd hidS
  repeat' split
  all_goals omega
theorem m_hidden_L {T : Tx} {G : Sn} {M : Mem} (hW : WT T) (h : MF T G M) (p0 : M 90 0 = T.1.len) : ∀ (r fuel n : Nat) (a b : Int), Nn T.1 - n = r → r < fuel → n ≤ Nn T.1 → b = n → a = nhd G.1 T.1.b (-1) n → f_X10_hiddenBytes_L4 fuel a b M = some (nhd G.1 T.1.b (-1) (Nn T.1)) := by
  have hN := Nn_is hW.1
  intro r
  induction r with
  | zero =>
    intro fuel n a b hr hf hn hb ha
    obtain ⟨fuel, rfl⟩ : ∃ f, fuel = f + 1 := ⟨fuel - 1, by omega⟩
    have : n = Nn T.1 := by omega
    subst this
    rw [f_X10_hiddenBytes_L4, if_pos (by omega), ha]
  | succ r ih =>
    intro fuel n a b hr hf hn hb ha
    obtain ⟨fuel, rfl⟩ : ∃ f, fuel = f + 1 := ⟨fuel - 1, by omega⟩
    subst hb
    have bd := nhd_le G.1 T.1.b (-1) n
    have hh := hd_ge (ρ := G.1) T.1.b (-1) n
    rw [f_X10_hiddenBytes_L4, if_neg (by omega), if_pos (by omega), h.2 n (by omega)]
    simp only [lt1_e]
    by_cases hc : hd G.1 T.1.b (-1) n ≤ 0
    · rw [if_pos hc, w32_of (i := a + 0) (by omega) (by omega), w32_of (by omega) (by omega)]
      exact ih fuel (n + 1) _ _ (by omega) (by omega) (by omega) (by omega) (by rw [nhd, if_pos (by omega), ha])
    · rw [if_neg hc, w32_of (i := a + 1) (by omega) (by omega), w32_of (by omega) (by omega)]
      exact ih fuel (n + 1) _ _ (by omega) (by omega) (by omega) (by omega) (by rw [nhd, if_neg (by omega), ha])
theorem m_hidden {T : Tx} {G : Sn} {M : Mem} (hW : WT T) (h : MF T G M) (p0 : M 90 0 = T.1.len) : f_X10_hiddenBytes M = some (nhd G.1 T.1.b (-1) (Nn T.1)) := by
  have hN := Nn_is hW.1
  exact m_hidden_L hW h p0 (Nn T.1) 4096 0 0 0 (by omega) (by omega) (by omega) rfl rfl
