/-! ===== the class pairs ===== -/
/-- a stack in an array: the latest one at the highest place -/
def StkA (f : Int → Int) : List Nat → Prop
  | [] => True
  | q :: L => f (L.length : Int) = q ∧ StkA f L
theorem StkA.congr {f g : Int → Int} : ∀ {L : List Nat}, StkA f L → (∀ i : Int, 0 ≤ i → i < L.length → g i = f i) → StkA g L := by
  intro L
  induction L with
  | nil => intro _ _; trivial
  | cons q L ih =>
    intro h e
    refine ⟨(e _ (by omega) (by simp only [List.length_cons]; omega)).trans h.1, ih h.2 (fun i i0 i1 => e i i0 (by simp only [List.length_cons]; omega))⟩
theorem StkA.tail {f : Int → Int} {L : List Nat} (h : StkA f L) : StkA f L.tail := by
  cases L with
  | nil => exact h
  | cons q L => exact h.2
theorem StkA.drop {f : Int → Int} (R : Nat → Int) (r : Int) : ∀ {L : List Nat}, StkA f L → StkA f (dropW R r L) := by
  intro L
  induction L with
  | nil => intro h; exact h
  | cons q L ih =>
    intro h
    rw [dropW]
    split
    · exact h
    · exact ih h.2
theorem roleAt_ok (o : Nat) (p : Int) (M : Mem) (h : M o 5 ≤ 240) : f_X5_roleAt o p M = some (if 0 ≤ p ∧ p < M o 5 then M (o + 2) p else -1) := by
  unfold f_X5_roleAt
  by_cases h0 : p < 0
  · rw [if_pos h0, if_neg (by omega)]
  · rw [if_neg h0]
    by_cases h1 : M o 5 ≤ p
    · rw [if_pos h1, if_neg (by omega)]
    · rw [if_neg h1, if_pos (by omega), if_pos (by omega)]
theorem latest_L4_ok (o : Nat) (R : Nat → Int) (r : Int) (M : Mem) (h5 : M o 5 ≤ 240) : ∀ (L : List Nat) (fuel : Nat) (k : Int), L.length < fuel → L.length ≤ 240 → k = (L.length : Int) - 1 → StkA (M (o + 5)) L → (∀ q ∈ L, (q : Int) < M o 5 ∧ M (o + 2) q = R q) →
    f_X5_latestWaiting_L4 fuel o r k M = some (((dropW R r L).length : Int) - 1) := by
  intro L
  induction L with
  | nil =>
    intro fuel k hf _ hk _ _
    obtain ⟨fuel, rfl⟩ : ∃ f, fuel = f + 1 := ⟨fuel - 1, by omega⟩
    rw [f_X5_latestWaiting_L4, hk]
    rfl
  | cons q L ih =>
    intro fuel k hf h240 hk hS hq
    obtain ⟨fuel, rfl⟩ : ∃ f, fuel = f + 1 := ⟨fuel - 1, by omega⟩
    simp only [List.length_cons] at hf h240 hk
    have hkL : k = (L.length : Int) := by omega
    subst hkL
    obtain ⟨q1, q2⟩ := hq q List.mem_cons_self
    rw [f_X5_latestWaiting_L4, if_neg (by omega), if_pos (by omega), hS.1, roleAt_ok o q M h5, if_pos (by omega), q2]
    show (if R q = r then _ else _) = _
    rw [dropW]
    by_cases hr : R q = r
    · rw [if_pos hr, if_pos hr]
      exact congrArg some (by simp only [List.length_cons]; omega)
    · rw [if_neg hr, if_neg hr]
      show f_X5_latestWaiting_L4 fuel o r (w32 ((L.length : Int) + -1)) M = _
      rw [w32_of (by omega) (by omega)]
      exact ih fuel _ (by omega) (by omega) (by omega) hS.2 (fun z hz => hq z (List.mem_cons_of_mem _ hz))
theorem joinPair_ok (o : Nat) (a c : Int) (M : Mem) (h0 : 0 ≤ a) (h1 : a < c) (h2 : c < 240) (h7 : 0 ≤ M o 7) (h7b : M o 7 ≤ 1000) : Ok (f_X5_joinPair o a c M) (fun M' => ∀ b i, M' b i = if b = o ∧ i = 7 then M o 7 + 1 else if b = o + 3 ∧ i = c then a else if b = o + 3 ∧ i = a then c else M b i) := by
  unfold f_X5_joinPair
  refine .ifF (by omega) (.ifF (by omega) (.ifF (by omega) (.ifT (by omega) (.put fun M1 e1 => .ifT (by omega) (.put fun M2 e2 => .put fun M3 e3 => .ret fun b i => ?_)))))
  have a7 : M2 o 7 = M o 7 := by rw [e2, if_neg (by omega), e1, if_neg (by omega)]
  rw [a7, w32_of (by omega) (by omega)] at e3
  rw [e3, e2, e1]
theorem dropW_len (R : Nat → Int) (r : Int) : ∀ L : List Nat, (dropW R r L).length ≤ L.length := by
  intro L
  induction L with
  | nil => exact Nat.le_refl _
  | cons a L ih =>
    rw [dropW]
    split
    · exact Nat.le_refl _
    · simp only [List.length_cons]; omega
/-- how many pairs end ahead of place n -/
def np (R : Nat → Int) : Nat → Int
  | 0 => 0
  | n + 1 => np R n + (if mt R n = -1 then 0 else 1)
theorem np_le (R : Nat → Int) : ∀ n : Nat, 0 ≤ np R n ∧ np R n ≤ n := by
  intro n
  induction n with
  | zero => exact ⟨Int.le_refl 0, Int.le_refl 0⟩
  | succ n ih =>
    rw [np]
    split <;> omega
/-- what the class's reading knows of the pairs behind n places -/
def PuI (R : Nat → Int) (M : Mem) (o n : Nat) : Prop := StkA (M (o + 5)) (wt R n) ∧ (∀ p : Nat, p < n → M (o + 3) p = pt R n p) ∧ M o 7 = np R n
theorem irm2 {r : Int} (h0 : 0 ≤ r) (h1 : r ≤ 100) : irm r 2 = r % 2 := by
  unfold irm
  have e : r.tdiv 2 = r / 2 := Int.tdiv_eq_ediv_of_nonneg h0
  rw [e, w32_of (i := r / 2) (by omega) (by omega), w32_of (i := r / 2 * 2) (by omega) (by omega), w32_of (by omega) (by omega)]
  omega
theorem pairUp_L9_ok (o : Nat) (R : Nat → Int) (len : Int) (hl : len ≤ 240) (hR : ∀ p : Nat, R p = -1 ∨ (0 ≤ R p ∧ R p ≤ 7)) : ∀ (r fuel n : Nat) (M : Mem), (len - n).toNat = r → r < fuel → (n : Int) ≤ len → M o 5 = len → (∀ p : Nat, (p : Int) < len → M (o + 2) p = R p) → PuI R M o n →
    Ok (f_X5_pairUp_L9 fuel o ((wt R n).length : Int) n M) (fun M' => PuI R M' o len.toNat ∧ ∀ c i, ¬ (c = o ∧ i = 7) → c ≠ o + 3 → c ≠ o + 5 → M' c i = M c i) := by
  intro r
  induction r with
  | zero =>
    intro fuel n M hr hf hn h5 hA hI
    obtain ⟨fuel, rfl⟩ : ∃ f, fuel = f + 1 := ⟨fuel - 1, by omega⟩
    rw [f_X5_pairUp_L9]
    refine .ifT (by omega) (.ret ⟨?_, fun c i _ _ _ => rfl⟩)
    rw [show len.toNat = n by omega]
    exact hI
  | succ r ih =>
    intro fuel n M hr hf hn h5 hA hI
    obtain ⟨fuel, rfl⟩ : ∃ f, fuel = f + 1 := ⟨fuel - 1, by omega⟩
    obtain ⟨i1, i2, i3⟩ := hI
    have hnp := np_le R n
    have hwl := wt_len R n
    have adv : ∀ (M1 : Mem) (t : Int), t = ((wt R (n + 1)).length : Int) → PuI R M1 o (n + 1) → (∀ c i, ¬ (c = o ∧ i = 7) → c ≠ o + 3 → c ≠ o + 5 → M1 c i = M c i) → Ok (lt1 (w32 ((n : Int) + 1)) fun k => f_X5_pairUp_L9 fuel o t k M1) (fun M' => PuI R M' o len.toNat ∧ ∀ c i, ¬ (c = o ∧ i = 7) → c ≠ o + 3 → c ≠ o + 5 → M' c i = M c i) := by
      intro M1 t ht hI' fr
      subst ht
      refine .let fun k ek => ?_
      rw [w32_of (by omega) (by omega)] at ek
      have ek2 : k = ((n + 1 : Nat) : Int) := by omega
      subst ek2
      exact (ih fuel (n + 1) M1 (by omega) (by omega) (by omega) (by rw [fr o 5 (by omega) (by omega) (by omega)]; exact h5) (fun p hp => by rw [fr (o + 2) p (by omega) (by omega) (by omega)]; exact hA p hp) hI').mono (fun M' h => ⟨h.1, fun c i a1 a2 a3 => (h.2 c i a1 a2 a3).trans (fr c i a1 a2 a3)⟩)
    rw [f_X5_pairUp_L9]
    refine .ifF (by omega) (.ifT (by omega) (.put fun M1 e1 => .let fun v ev => ?_))
    have hv : v = R n := by rw [ev, e1, if_neg (by omega)]; exact hA n (by omega)
    subst hv
    have S1 : StkA (M1 (o + 5)) (wt R n) := i1.congr (fun i _ _ => by rw [e1, if_neg (by omega)])
    have f7 : M1 o 7 = M o 7 := by rw [e1, if_neg (by omega)]
    have ptn : pt R n n = -1 := pt_out R n n (Nat.le_refl _)
    have prt : ∀ p : Nat, p < n + 1 → M1 (o + 3) p = pt R n p := fun p hp => by
      by_cases e : p = n
      · subst e; rw [e1, if_pos ⟨rfl, rfl⟩, ptn]
      · rw [e1, if_neg (by omega)]; exact i2 p (by omega)
    have fr1 : ∀ c i, ¬ (c = o ∧ i = 7) → c ≠ o + 3 → c ≠ o + 5 → M1 c i = M c i := fun c i _ a2 _ => by rw [e1, if_neg (by omega)]
    by_cases hn1 : R n = -1
    · have hm : mt R n = -1 := by unfold mt; rw [if_pos (Or.inl hn1)]
      have hw : wt R (n + 1) = wt R n := by rw [wt, if_pos hn1]
      refine .ifT hn1 (adv M1 _ (by rw [hw]) ⟨by rw [hw]; exact S1, fun p hp => ?_, by rw [np, if_pos hm]; omega⟩ fr1)
      rw [prt p hp, pt, if_pos hm]
    · have hr7 := hR n
      rw [irm2 (by omega) (by omega)]
      by_cases hev : R n % 2 = 0
      · have hm : mt R n = -1 := by unfold mt; rw [if_pos (Or.inr hev)]
        have hw : wt R (n + 1) = n :: wt R n := by rw [wt, if_neg hn1, if_pos hev]
        refine .ifF hn1 (.ifT hev (.ifF (by omega) (.ifT (by omega) (.put fun M2 e2 => .let fun t et => ?_))))
        rw [w32_of (by omega) (by omega)] at et
        refine adv M2 t (by rw [hw, List.length_cons]; omega) ⟨?_, fun p hp => ?_, by rw [e2, if_neg (by omega), np, if_pos hm]; omega⟩ (fun c i a1 a2 a3 => by rw [e2, if_neg (by omega)]; exact fr1 c i a1 a2 a3)
        · rw [hw]
          refine ⟨by rw [e2, if_pos ⟨rfl, rfl⟩], S1.congr (fun i i0 i1 => by rw [e2, if_neg (by omega)])⟩
        · rw [e2, if_neg (by omega), prt p hp, pt, if_pos hm]
      · refine .ifF hn1 (.ifF hev (.bind (Q := fun q => q = ((dropW R (R n - 1) (wt R n)).length : Int) - 1) ?_ (fun q hq => ?_)))
        · unfold f_X5_latestWaiting
          refine .let fun k ek => ?_
          rw [w32_of (by omega) (by omega)] at ek
          rw [w32_of (by omega) (by omega)]
          refine .val (latest_L4_ok o R (R n - 1) M1 (by rw [e1, if_neg (by omega)]; omega) (wt R n) 4096 k (by omega) (by omega) ek S1 (fun z hz => ?_))
          have := wt_lt R n z hz
          exact ⟨by rw [e1, if_neg (by omega)]; omega, by rw [e1, if_neg (by omega)]; exact hA z (by omega)⟩
        · cases hd : dropW R (R n - 1) (wt R n) with
          | nil =>
            rw [hd] at hq
            have hm : mt R n = -1 := by unfold mt; rw [if_neg (by omega), hd]
            have hw : wt R (n + 1) = wt R n := by rw [wt, if_neg hn1, if_neg hev, if_pos hd]
            refine .ifT hq (adv M1 _ (by rw [hw]) ⟨by rw [hw]; exact S1, fun p hp => ?_, by rw [np, if_pos hm]; omega⟩ fr1)
            rw [prt p hp, pt, if_pos hm]
          | cons z L =>
            rw [hd, List.length_cons] at hq
            have hm : mt R n = z := by unfold mt; rw [if_neg (by omega), hd]
            have hw : wt R (n + 1) = L := by rw [wt, if_neg hn1, if_neg hev, if_neg (by rw [hd]; simp), hd]; rfl
            have hzl : z < n := wt_lt R n z (dropW_sub R _ _ z (by rw [hd]; exact List.mem_cons_self))
            have SD := S1.drop R (R n - 1)
            rw [hd] at SD
            have hLn : L.length ≤ n := by have := dropW_len R (R n - 1) (wt R n); rw [hd, List.length_cons] at this; omega
            have hqL : q = (L.length : Int) := by omega
            subst hqL
            refine .ifF (by omega) (.ifT (by omega) (.bind (joinPair_ok o (M1 (o + 5) (L.length : Int)) n M1 (by rw [SD.1]; omega) (by rw [SD.1]; omega) (by omega) (by omega) (by omega)) (fun M2 e2 => ?_)))
            rw [SD.1] at e2
            refine adv M2 _ (by rw [hw]) ⟨?_, fun p hp => ?_, by rw [e2, if_pos ⟨rfl, rfl⟩, np, if_neg (by omega)]; omega⟩ (fun c i a1 a2 a3 => by rw [e2, if_neg (by omega), if_neg (by omega), if_neg (by omega)]; exact fr1 c i a1 a2 a3)
            · rw [hw]
              exact SD.2.congr (fun i i0 i1 => by rw [e2, if_neg (by omega), if_neg (by omega), if_neg (by omega)])
            · rw [pt, if_neg (by omega), hm, e2, if_neg (by omega)]
              by_cases hpz : (p : Int) = z
              · rw [if_pos hpz, if_neg (by omega), if_pos (by omega)]
              · rw [if_neg hpz]
                by_cases hpn : p = n
                · rw [if_pos hpn, if_pos (by omega)]
                · rw [if_neg hpn, if_neg (by omega), if_neg (by omega)]
                  exact prt p hp
theorem pairUp_ok (o : Nat) (R : Nat → Int) (len : Int) (l0 : 0 ≤ len) (hl : len ≤ 240) (hR : ∀ p : Nat, R p = -1 ∨ (0 ≤ R p ∧ R p ≤ 7)) (M : Mem) (h5 : M o 5 = len) (hA : ∀ p : Nat, (p : Int) < len → M (o + 2) p = R p) :
    Ok (f_X5_pairUp o M) (fun M' => PuI R M' o len.toNat ∧ ∀ c i, ¬ (c = o ∧ i = 7) → c ≠ o + 3 → c ≠ o + 5 → M' c i = M c i) := by
  unfold f_X5_pairUp
  refine .put fun M1 e1 => ?_
  have oth : ∀ c i, ¬ (c = o ∧ i = 7) → M1 c i = M c i := fun c i h => by rw [e1, if_neg h]
  exact (pairUp_L9_ok o R len hl hR (len - (0 : Nat)).toNat 4096 0 M1 rfl (by omega) (by omega) (by rw [oth o 5 (by omega)]; exact h5) (fun p hp => by rw [oth (o + 2) p (by omega)]; exact hA p hp) ⟨trivial, fun p hp => by omega, by rw [e1, if_pos ⟨rfl, rfl⟩]; rfl⟩).mono (fun M' h => ⟨h.1, fun c i a1 a2 a3 => (h.2 c i a1 a2 a3).trans (oth c i a1)⟩)
