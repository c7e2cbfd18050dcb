/-! ===== the class measures depths; its reading as a whole ===== -/
def CP (T : Nat → Int) (N : Nat) (M : Mem) : Prop := M 54 5 = N ∧ ∀ p : Nat, p < N → M 57 p = T p
def CR (R : Nat → Int) (N : Nat) (M : Mem) : Prop := M 54 5 = N ∧ ∀ p : Nat, p < N → M 56 p = R p
theorem partnerOf_at {T : Nat → Int} {N : Nat} (hN : N ≤ 240) {M : Mem} (h : CP T N M) {p : Nat} (hp : p < N) : f_X5_partnerOf 54 p M = some (T p) := by
  unfold f_X5_partnerOf
  rw [h.1, if_neg (by omega), if_neg (by omega), if_pos (by omega)]
  exact congrArg some (h.2 p hp)
theorem partnerOf_no {T : Nat → Int} {N : Nat} {M : Mem} (h : CP T N M) {v : Int} (hv : v < 0 ∨ (N : Int) ≤ v) : f_X5_partnerOf 54 v M = some (-1) := by
  unfold f_X5_partnerOf
  rw [h.1]
  by_cases h0 : v < 0
  · rw [if_pos h0]
  · rw [if_neg h0, if_pos (by omega)]
theorem roleAt_at {R : Nat → Int} {N : Nat} (hN : N ≤ 240) {M : Mem} (h : CR R N M) {p : Nat} (hp : p < N) : f_X5_roleAt 54 p M = some (R p) := by
  rw [roleAt_ok 54 p M (by rw [h.1]; omega), if_pos (by rw [h.1]; omega)]
  exact congrArg some (h.2 p hp)
theorem isClosing_at {T : Nat → Int} {N : Nat} (hN : N ≤ 240) (hT : ∀ p, -1 ≤ T p) {M : Mem} (h : CP T N M) {p : Nat} (hp : p < N) : f_X5_isClosing 54 p M = some (clf T p) := by
  unfold f_X5_isClosing
  rw [partnerOf_at hN h hp]
  show (if T p = -1 then some 0 else if (p : Int) ≤ T p then some 0 else some 1) = _
  have := hT p
  unfold clf
  by_cases h1 : T p = -1
  · rw [if_pos h1, if_neg (by omega)]
  · rw [if_neg h1]
    by_cases h2 : (p : Int) ≤ T p
    · rw [if_pos h2, if_neg (by omega)]
    · rw [if_neg h2, if_pos (by omega)]
theorem isOpening_at {T : Nat → Int} {N : Nat} (hN : N ≤ 240) {M : Mem} (h : CP T N M) {p : Nat} (hp : p < N) : f_X5_isOpening 54 p M = some (opf T p) := by
  unfold f_X5_isOpening
  rw [partnerOf_at hN h hp]
  show (if T p ≤ p then some 0 else some 1) = _
  unfold opf
  by_cases h1 : T p ≤ p
  · rw [if_pos h1, if_neg (by omega)]
  · rw [if_neg h1, if_pos (by omega)]
/-- the greatest depth of the pairs that open ahead of a place -/
def dps (T : Nat → Int) (N : Nat) : Nat → Int
  | 0 => -1
  | n + 1 => if (n : Int) < T n then (if dps T N n < ar T N n then ar T N n else dps T N n) else dps T N n
theorem dps_bd (T : Nat → Int) (N : Nat) : ∀ n, -1 ≤ dps T N n ∧ dps T N n ≤ N := by
  intro n
  induction n with
  | zero => exact ⟨Int.le_refl _, by show (-1 : Int) ≤ N; omega⟩
  | succ n ih =>
    have := ar_bd T N n
    rw [dps]
    split
    · split <;> omega
    · exact ih
theorem CP.same {T : Nat → Int} {N : Nat} {M M' : Mem} (h : CP T N M) (e0 : M' 54 5 = M 54 5) (e : ∀ i, M' 57 i = M 57 i) : CP T N M' := ⟨e0.trans h.1, fun p hp => (e _).trans (h.2 p hp)⟩
theorem mD_L9_ok {R T : Nat → Int} {N : Nat} (hN : N ≤ 240) (hP : PS R N T) : ∀ (r fuel n : Nat) (v1 v2 : Int) (M : Mem), N - n = r → r < fuel → n ≤ N → v1 = dd T n → v2 = n → CP T N M → M 54 9 = dps T N n → (∀ p : Nat, p < n → M 58 p = ar T N p) →
    Ok (f_X5_measureDepths_L9 fuel 54 v1 v2 M) (fun M' => M' 54 9 = dps T N N ∧ (∀ p : Nat, p < N → M' 58 p = ar T N p) ∧ ∀ c i, ¬ (c = 54 ∧ i = 9) → c ≠ 58 → M' c i = M c i) := by
  intro r
  induction r with
  | zero =>
    intro fuel n v1 v2 M hr hf hn h1 h2 hC h9 h4
    obtain ⟨fuel, rfl⟩ : ∃ f, fuel = f + 1 := ⟨fuel - 1, by omega⟩
    rw [f_X5_measureDepths_L9]
    have : n = N := by omega
    subst this
    exact .ifT (by rw [hC.1]; omega) (.ret ⟨h9, h4, fun c i _ _ => rfl⟩)
  | succ r ih =>
    intro fuel n v1 v2 M hr hf hn h1 h2 hC h9 h4
    obtain ⟨fuel, rfl⟩ : ∃ f, fuel = f + 1 := ⟨fuel - 1, by omega⟩
    subst h1; subst h2
    have nN : n < N := by omega
    have k := (dd_ge hP n hn)
    have bd := ar_bd T N n
    have b9 := dps_bd T N n
    have dsuc : dd T (n + 1) = dd T n + opf T n - clf T n := by unfold dd; rw [sm, sm]; omega
    have c01 : clf T n = 0 ∨ clf T n = 1 := by unfold clf; split <;> omega
    have o01 : opf T n = 0 ∨ opf T n = 1 := by unfold opf; split <;> omega
    have opn : opf T n = 1 ↔ (n : Int) < T n := by unfold opf; split <;> omega
    have fin : ∀ (v : Int), v = ar T N n → Ok (lt1 (up M 58 n v) fun M34 => (f_X5_isOpening 54 n M34).bind fun p37 =>
        if p37 = 0 then
          lt1 (w32 ((n : Int) + 1)) fun v2_58 => f_X5_measureDepths_L9 fuel 54 v v2_58 M34
        else
          lt1 (if (M34 54 9) < v then v else M34 54 9) fun x49 =>
          lt1 (up M34 54 9 x49) fun M52 =>
          lt1 (w32 (v + 1)) fun v1_55 =>
          lt1 (w32 ((n : Int) + 1)) fun v2_58 =>
          f_X5_measureDepths_L9 fuel 54 v1_55 v2_58 M52) (fun M' => M' 54 9 = dps T N N ∧ (∀ p : Nat, p < N → M' 58 p = ar T N p) ∧ ∀ c i, ¬ (c = 54 ∧ i = 9) → c ≠ 58 → M' c i = M c i) := by
      intro v hv
      subst hv
      refine .put fun M1 e1 => .bind (.val (isOpening_at hN (hC.same (by rw [e1, if_neg (by omega)]) (fun i => by rw [e1, if_neg (by omega)])) nN)) (fun q hq => ?_)
      subst hq
      have q4 : ∀ p : Nat, p < n + 1 → M1 58 p = ar T N p := fun p hp => by
        by_cases e : p = n
        · subst e; rw [e1, if_pos ⟨rfl, rfl⟩]
        · rw [e1, if_neg (by omega)]; exact h4 p (by omega)
      have a9 : M1 54 9 = dps T N n := by rw [e1, if_neg (by omega)]; exact h9
      refine .ifC (fun ho => .let fun u eu => ?_) (fun ho => .let fun x ex => .put fun M2 e2 => .let fun t et => .let fun u eu => ?_)
      · rw [w32_of (by omega) (by omega)] at eu
        refine (ih fuel (n + 1) (ar T N n) u M1 (by omega) (by omega) nN (by omega) (by omega) (hC.same (by rw [e1, if_neg (by omega)]) (fun i => by rw [e1, if_neg (by omega)])) ?_ q4).mono (fun M' h => ⟨h.1, h.2.1, fun c i a b => by rw [h.2.2 c i a b, e1, if_neg (by omega)]⟩)
        rw [dps, if_neg (by omega)]; exact a9
      · rw [w32_of (by omega) (by omega)] at eu et
        refine (ih fuel (n + 1) t u M2 (by omega) (by omega) nN ?_ (by omega) (hC.same (by rw [e2, if_neg (by omega), e1, if_neg (by omega)]) (fun i => by rw [e2, if_neg (by omega), e1, if_neg (by omega)])) ?_ (fun p hp => by rw [e2, if_neg (by omega)]; exact q4 p hp)).mono (fun M' h => ⟨h.1, h.2.1, fun c i a b => by rw [h.2.2 c i a b, e2, if_neg (by omega), e1, if_neg (by omega)]⟩)
        · have := (opn.mp (by omega))
          have cz : clf T n = 0 := by unfold clf; rw [if_neg (by omega)]
          omega
        · rw [dps, if_pos (opn.mp (by omega)), e2, if_pos ⟨rfl, rfl⟩, ex, a9]
    rw [f_X5_measureDepths_L9]
    refine .ifF (by rw [hC.1]; omega) (.bind (.val (isClosing_at hN hP.1 hC nN)) (fun q hq => ?_))
    subst hq
    refine .ifC (fun hc => .ifT (by omega) ?_) (fun hc => .let fun t et => .ifT (by omega) ?_)
    · exact fin (dd T n) (by omega)
    · rw [w32_of (by omega) (by omega)] at et
      subst et
      exact fin _ (by omega)
theorem measureDepths_ok {R T : Nat → Int} {N : Nat} (hN : N ≤ 240) (hP : PS R N T) (M : Mem) (hC : CP T N M) : Ok (f_X5_measureDepths 54 M) (fun M' => M' 54 9 = dps T N N ∧ (∀ p : Nat, p < N → M' 58 p = ar T N p) ∧ ∀ c i, ¬ (c = 54 ∧ i = 9) → c ≠ 58 → M' c i = M c i) := by
  unfold f_X5_measureDepths
  refine .put fun M1 e1 => ?_
  exact (mD_L9_ok hN hP N 4096 0 0 0 M1 (by omega) (by omega) (by omega) rfl rfl (hC.same (by rw [e1, if_neg (by omega)]) (fun i => by rw [e1, if_neg (by omega)])) (by rw [e1, if_pos ⟨rfl, rfl⟩]; rfl) (fun p hp => by omega)).mono (fun M' h => ⟨h.1, h.2.1, fun c i a b => by rw [h.2.2 c i a b, e1, if_neg (by omega)]⟩)
/-- roles, partners of a text -/
def Rof (ρ : Int → Int) (P : Pg) : Nat → Int := rl ρ P.b (-1)
def Nn (P : Pg) : Nat := P.len.toNat
def Pt (ρ : Int → Int) (P : Pg) : Nat → Int := pt (Rof ρ P) (Nn P)
theorem rl_bd {ρ : Int → Int} (h : ∀ c, ρ c = -1 ∨ (0 ≤ ρ c ∧ ρ c ≤ 10)) (b : Int → Int) (sk : Int) (p : Nat) : rl ρ b sk p = -1 ∨ (0 ≤ rl ρ b sk p ∧ rl ρ b sk p ≤ 7) := by
  unfold rl rolS
  have := h (b p)
  split
  · omega
  · split <;> omega
/-- the class's reading says what the text says -/
def RV (ρ : Int → Int) (P : Pg) (M : Mem) : Prop := M 54 5 = (Nn P : Nat) ∧ M 54 6 = nb (Rof ρ P) (Nn P) ∧ M 54 7 = np (Rof ρ P) (Nn P) ∧ M 54 8 = nhd ρ P.b (-1) (Nn P) ∧ M 54 9 = dps (Pt ρ P) (Nn P) (Nn P) ∧ ∀ p : Nat, p < Nn P → M 55 p = hd ρ P.b (-1) p ∧ M 56 p = Rof ρ P p ∧ M 57 p = Pt ρ P p ∧ M 58 p = ar (Pt ρ P) (Nn P) p
theorem RV.same {ρ : Int → Int} {P : Pg} {M M' : Mem} (h : RV ρ P M) (e : ∀ c i, 54 ≤ c → c ≤ 58 → M' c i = M c i) : RV ρ P M' := by
  obtain ⟨h1, h2, h3, h4, h5, h6⟩ := h
  refine ⟨(e 54 5 (by omega) (by omega)).trans h1, (e 54 6 (by omega) (by omega)).trans h2, (e 54 7 (by omega) (by omega)).trans h3, (e 54 8 (by omega) (by omega)).trans h4, (e 54 9 (by omega) (by omega)).trans h5, fun p hp => ?_⟩
  rw [e 55 p (by omega) (by omega), e 56 p (by omega) (by omega), e 57 p (by omega) (by omega), e 58 p (by omega) (by omega)]
  exact h6 p hp
theorem RV.cp {ρ : Int → Int} {P : Pg} {M : Mem} (h : RV ρ P M) : CP (Pt ρ P) (Nn P) M := ⟨h.1, fun p hp => (h.2.2.2.2.2 p hp).2.2.1⟩
theorem RV.cr {ρ : Int → Int} {P : Pg} {M : Mem} (h : RV ρ P M) : CR (Rof ρ P) (Nn P) M := ⟨h.1, fun p hp => (h.2.2.2.2.2 p hp).2.1⟩
theorem Nn_is {P : Pg} (h : Wf P) : ((Nn P : Nat) : Int) = P.len ∧ Nn P ≤ 240 := by
  have := h.l0; have := h.l1; unfold Nn; omega
def RZ (c : Nat) (i : Int) : Prop := (54 ≤ c ∧ c ≤ 59) ∨ (c = 0 ∧ i = 16)
theorem readNow_ok {ρ : Int → Int} {P : Pg} (hW : Wf P) (M : Mem) (hP : PgC M 14 P) (hρ : RoT ρ M) (hc : M 0 16 = 0 → RV ρ P M) : Ok (f_X9_readNow M) (fun M' => RV ρ P M' ∧ M' 0 16 = 0 ∧ ∀ c i, ¬ RZ c i → M' c i = M c i) := by
  have hN := Nn_is hW
  have hR : ∀ p : Nat, Rof ρ P p = -1 ∨ (0 ≤ Rof ρ P p ∧ Rof ρ P p ≤ 7) := fun p => rl_bd hρ.2.1 P.b (-1) p
  unfold f_X9_readNow
  refine .ifC (fun h => .ret ⟨hc h, h, fun c i _ => rfl⟩) (fun h => ?_)
  refine .bind (read_ok (ρ := ρ) (b := P.b) (sk := -1) 54 (Or.inl rfl) hW rfl M hP hρ) (fun M1 ⟨⟨a1, a2, a3, a4, a5⟩, b1, c1, d1⟩ => ?_)
  refine .bind (pairUp_ok 54 (Rof ρ P) P.len hW.l0 hW.l1 hR M1 b1 (fun p hp => (a5 p (by omega)).2)) (fun M2 ⟨⟨s1, s2, s3⟩, fr2⟩ => ?_)
  have hC : CP (Pt ρ P) (Nn P) M2 := ⟨by rw [fr2 54 5 (by omega) (by omega) (by omega), b1]; omega, fun p hp => s2 p hp⟩
  refine .bind (measureDepths_ok hN.2 (pairs_keep hR (Nn P)).1 M2 hC) (fun M3 ⟨t1, t2, fr3⟩ => ?_)
  refine .put fun M4 e4 => .ret ⟨⟨?_, ?_, ?_, ?_, ?_, fun p hp => ⟨?_, ?_, ?_, ?_⟩⟩, ?_, fun c i hci => ?_⟩
  · rw [e4, if_neg (by omega), fr3 54 5 (by omega) (by omega)]; exact hC.1
  · rw [e4, if_neg (by omega), fr3 54 6 (by omega) (by omega), fr2 54 6 (by omega) (by omega) (by omega), a3, nbr_nb]; rfl
  · rw [e4, if_neg (by omega), fr3 54 7 (by omega) (by omega)]; exact s3
  · rw [e4, if_neg (by omega), fr3 54 8 (by omega) (by omega), fr2 54 8 (by omega) (by omega) (by omega), a4]; rfl
  · rw [e4, if_neg (by omega)]; exact t1
  · rw [e4, if_neg (by omega), fr3 55 p (by omega) (by omega), fr2 55 p (by omega) (by omega) (by omega)]; exact (a5 p hp).1
  · rw [e4, if_neg (by omega), fr3 56 p (by omega) (by omega), fr2 56 p (by omega) (by omega) (by omega)]; exact (a5 p hp).2
  · rw [e4, if_neg (by omega), fr3 57 p (by omega) (by omega)]; exact s2 p hp
  · rw [e4, if_neg (by omega)]; exact t2 p hp
  · rw [e4, if_pos ⟨rfl, rfl⟩]
  · unfold RZ at hci
    rw [e4, if_neg (by omega), fr3 c i (by omega) (by omega), fr2 c i (by omega) (by omega) (by omega), c1 c i (by omega) (by omega) (by omega)]
