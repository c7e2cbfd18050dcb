/-! ===== THE REPAIR's cost: the spec ===== -/
def prc (r : Nat → Int) (ch : Int) (i m : Nat) : Int := if r i + 1 = r m then 0 else ch
/-- the cheapest way for the i-th bracket, of the first so many partners; -1: none -/
def inn (C : Nat → Nat → Int) (r : Nat → Int) (al ch : Int) (i j : Nat) : Nat → Int × Int
  | 0 => (al + C (i + 1) j, -1)
  | t + 1 => if r i % 2 = 0 ∧ r (i + 1 + t) % 2 = 1 then (if prc r ch i (i + 1 + t) + C (i + 1) (i + 1 + t) + C (i + 1 + t + 1) j < (inn C r al ch i j t).1 then (prc r ch i (i + 1 + t) + C (i + 1) (i + 1 + t) + C (i + 1 + t + 1) j, ((i + 1 + t : Nat) : Int)) else inn C r al ch i j t) else inn C r al ch i j t
def tab (r : Nat → Int) (al ch : Int) : Nat → Nat → Nat → Int
  | 0, _, _ => 0
  | d + 1, i, j => if j ≤ i then 0 else (inn (tab r al ch d) r al ch i j (j - i - 1)).1
def Cs (r : Nat → Int) (al ch : Int) (i j : Nat) : Int := tab r al ch (j - i) i j
def Wy (r : Nat → Int) (al ch : Int) (i j : Nat) : Int := (inn (Cs r al ch) r al ch i j (j - i - 1)).2
theorem inn_congr {C C' : Nat → Nat → Int} {r r' : Nat → Int} {al ch : Int} {i j : Nat} (hij : i < j) (h : ∀ a b, i < a → a ≤ b → b ≤ j → C a b = C' a b) (hr : ∀ k, i ≤ k → k < j → r k = r' k) : ∀ t : Nat, i + 1 + t ≤ j → inn C r al ch i j t = inn C' r' al ch i j t := by
  intro t
  induction t with
  | zero => intro ht; rw [inn, inn, h (i + 1) j (by omega) (by omega) (by omega)]
  | succ t ih =>
    intro ht
    rw [inn, inn, ih (by omega), h (i + 1) (i + 1 + t) (by omega) (by omega) (by omega), h (i + 1 + t + 1) j (by omega) (by omega) (by omega), hr i (by omega) hij, hr (i + 1 + t) (by omega) (by omega)]
    unfold prc
    rw [hr i (by omega) hij, hr (i + 1 + t) (by omega) (by omega)]
theorem tab_st (r : Nat → Int) (al ch : Int) : ∀ (d d' i j : Nat), j - i ≤ d → j - i ≤ d' → tab r al ch d i j = tab r al ch d' i j := by
  intro d
  induction d with
  | zero =>
    intro d' i j h h'
    cases d' with
    | zero => rfl
    | succ d' => rw [tab, tab, if_pos (by omega)]
  | succ d ih =>
    intro d' i j h h'
    cases d' with
    | zero => rw [tab, tab, if_pos (by omega)]
    | succ d' =>
      rw [tab, tab]
      by_cases hji : j ≤ i
      · rw [if_pos hji, if_pos hji]
      · rw [if_neg hji, if_neg hji, inn_congr (C' := tab r al ch d') (r' := r) (by omega) (fun a b a0 a1 a2 => ih d' a b (by omega) (by omega)) (fun k _ _ => rfl) (j - i - 1) (by omega)]
theorem Cs_no (r : Nat → Int) (al ch : Int) {i j : Nat} (h : j ≤ i) : Cs r al ch i j = 0 := by
  unfold Cs
  rw [show j - i = 0 by omega]
  rfl
theorem Cs_eq (r : Nat → Int) (al ch : Int) {i j : Nat} (h : i < j) : Cs r al ch i j = (inn (Cs r al ch) r al ch i j (j - i - 1)).1 := by
  show tab r al ch (j - i) i j = _
  rw [tab_st r al ch (j - i) (j - i + 1) i j (by omega) (by omega), tab, if_neg (by omega), inn_congr (C' := Cs r al ch) (r' := r) h (fun a b a0 a1 a2 => tab_st r al ch (j - i) (b - a) a b (by omega) (Nat.le_refl _)) (fun k _ _ => rfl) (j - i - 1) (by omega)]
/-- what the cheapest way is not above, and what it is -/
theorem inn_le (C : Nat → Nat → Int) (r : Nat → Int) (al ch : Int) (i j : Nat) : ∀ t : Nat, (inn C r al ch i j t).1 ≤ al + C (i + 1) j ∧ ∀ m : Nat, i < m → m < i + 1 + t → r i % 2 = 0 → r m % 2 = 1 → (inn C r al ch i j t).1 ≤ prc r ch i m + C (i + 1) m + C (m + 1) j := by
  intro t
  induction t with
  | zero => exact ⟨Int.le_refl _, fun m h0 h1 => by omega⟩
  | succ t ih =>
    rw [inn]
    by_cases hc : r i % 2 = 0 ∧ r (i + 1 + t) % 2 = 1
    · rw [if_pos hc]
      split
      · rename_i hlt
        refine ⟨by omega, fun m h0 h1 h2 h3 => ?_⟩
        by_cases e : m = i + 1 + t
        · subst e; exact Int.le_refl _
        · have := ih.2 m h0 (by omega) h2 h3; omega
      · rename_i hlt
        refine ⟨ih.1, fun m h0 h1 h2 h3 => ?_⟩
        by_cases e : m = i + 1 + t
        · subst e; omega
        · exact ih.2 m h0 (by omega) h2 h3
    · rw [if_neg hc]
      refine ⟨ih.1, fun m h0 h1 h2 h3 => ?_⟩
      by_cases e : m = i + 1 + t
      · subst e; exact absurd ⟨h2, h3⟩ hc
      · exact ih.2 m h0 (by omega) h2 h3
theorem inn_is (C : Nat → Nat → Int) (r : Nat → Int) (al ch : Int) (i j : Nat) : ∀ t : Nat, ((inn C r al ch i j t).2 = -1 ∧ (inn C r al ch i j t).1 = al + C (i + 1) j) ∨ ∃ m : Nat, (inn C r al ch i j t).2 = m ∧ i < m ∧ m < i + 1 + t ∧ r i % 2 = 0 ∧ r m % 2 = 1 ∧ (inn C r al ch i j t).1 = prc r ch i m + C (i + 1) m + C (m + 1) j := by
  intro t
  induction t with
  | zero => exact Or.inl ⟨rfl, rfl⟩
  | succ t ih =>
    have up : ∀ x : Int × Int, x = inn C r al ch i j t → (x.2 = -1 ∧ x.1 = al + C (i + 1) j) ∨ ∃ m : Nat, x.2 = m ∧ i < m ∧ m < i + 1 + (t + 1) ∧ r i % 2 = 0 ∧ r m % 2 = 1 ∧ x.1 = prc r ch i m + C (i + 1) m + C (m + 1) j := by
      intro x hx
      rw [hx]
      rcases ih with h | ⟨m, a, b, c, d⟩
      · exact Or.inl h
      · exact Or.inr ⟨m, a, b, by omega, d⟩
    rw [inn]
    by_cases hc : r i % 2 = 0 ∧ r (i + 1 + t) % 2 = 1
    · rw [if_pos hc]
      split
      · exact Or.inr ⟨i + 1 + t, rfl, by omega, by omega, hc.1, hc.2, rfl⟩
      · exact up _ rfl
    · rw [if_neg hc]
      exact up _ rfl
theorem Cs_le (r : Nat → Int) (al ch : Int) {i j : Nat} (h : i < j) : Cs r al ch i j ≤ al + Cs r al ch (i + 1) j ∧ ∀ m : Nat, i < m → m < j → r i % 2 = 0 → r m % 2 = 1 → Cs r al ch i j ≤ prc r ch i m + Cs r al ch (i + 1) m + Cs r al ch (m + 1) j := by
  rw [Cs_eq r al ch h]
  have k := inn_le (Cs r al ch) r al ch i j (j - i - 1)
  exact ⟨k.1, fun m h0 h1 => k.2 m h0 (by omega)⟩
theorem Cs_is (r : Nat → Int) (al ch : Int) {i j : Nat} (h : i < j) : (Wy r al ch i j = -1 ∧ Cs r al ch i j = al + Cs r al ch (i + 1) j) ∨ ∃ m : Nat, Wy r al ch i j = m ∧ i < m ∧ m < j ∧ r i % 2 = 0 ∧ r m % 2 = 1 ∧ Cs r al ch i j = prc r ch i m + Cs r al ch (i + 1) m + Cs r al ch (m + 1) j := by
  rw [Cs_eq r al ch h]
  rcases inn_is (Cs r al ch) r al ch i j (j - i - 1) with k | ⟨m, a, b, c, d⟩
  · exact Or.inl k
  · exact Or.inr ⟨m, a, b, by omega, d⟩
theorem Cs_bd (r : Nat → Int) {al ch : Int} (ha : 0 ≤ al ∧ al ≤ 99) (hc : 0 ≤ ch) : ∀ (d i j : Nat), j - i = d → 0 ≤ Cs r al ch i j ∧ Cs r al ch i j ≤ 99 * (d : Int) := by
  intro d
  induction d using Nat.strongRecOn with
  | ind d ih =>
    intro i j hd
    by_cases h : i < j
    · have l := (Cs_le r al ch h).1
      have i1 := ih (j - (i + 1)) (by omega) (i + 1) j rfl
      refine ⟨?_, by omega⟩
      rcases Cs_is r al ch h with ⟨_, e⟩ | ⟨m, a, b, c, d1, d2, e⟩
      · omega
      · have i2 := ih (m - (i + 1)) (by omega) (i + 1) m rfl
        have i3 := ih (j - (m + 1)) (by omega) (m + 1) j rfl
        have : 0 ≤ prc r ch i m := by unfold prc; split <;> omega
        omega
    · rw [Cs_no r al ch (by omega)]
      omega
theorem Cs_congr {r r' : Nat → Int} {al ch : Int} : ∀ (d i j : Nat), j - i = d → (∀ k, i ≤ k → k < j → r k = r' k) → Cs r al ch i j = Cs r' al ch i j := by
  intro d
  induction d using Nat.strongRecOn with
  | ind d ih =>
    intro i j hd hr
    by_cases h : i < j
    · rw [Cs_eq r al ch h, Cs_eq r' al ch h]
      rw [inn_congr h (fun a b a0 a1 a2 => ih (b - a) (by omega) a b rfl (fun k k0 k1 => hr k (by omega) (by omega))) hr (j - i - 1) (by omega)]
    · rw [Cs_no r al ch (by omega), Cs_no r' al ch (by omega)]
/-- one bracket less -/
def lss (r : Nat → Int) (e : Nat) (k : Nat) : Int := if k < e then r k else r (k + 1)
theorem inn_sh (r : Nat → Int) (al ch : Int) {e i j : Nat} (he : e ≤ i) (C : Nat → Nat → Int) (C' : Nat → Nat → Int) (hij : i < j) (h : ∀ a b, i < a → a ≤ b → b ≤ j → C a b = C' (a + 1) (b + 1)) : ∀ t : Nat, i + 1 + t ≤ j → (inn C (lss r e) al ch i j t).1 = (inn C' r al ch (i + 1) (j + 1) t).1 := by
  intro t
  have q : ∀ k, e ≤ k → lss r e k = r (k + 1) := fun k hk => by unfold lss; rw [if_neg (by omega)]
  induction t with
  | zero =>
    intro ht
    show al + C (i + 1) j = al + C' (i + 1 + 1) (j + 1)
    rw [h (i + 1) j (by omega) (by omega) (by omega)]
  | succ t ih =>
    intro ht
    have i1 := ih (by omega)
    have e1 : i + 1 + t + 1 = i + 1 + 1 + t := by omega
    have p : prc (lss r e) ch i (i + 1 + t) = prc r ch (i + 1) (i + 1 + 1 + t) := by
      unfold prc
      rw [q i he, q (i + 1 + t) (by omega), e1]
    rw [inn, inn, p, q i he, q (i + 1 + t) (by omega), h (i + 1) (i + 1 + t) (by omega) (by omega) (by omega), h (i + 1 + t + 1) j (by omega) (by omega) (by omega), e1, i1]
    split
    · split
      · rfl
      · exact i1
    · exact i1
theorem Cs_sh (r : Nat → Int) (al ch : Int) (e : Nat) : ∀ (d i j : Nat), j - i = d → e ≤ i → Cs (lss r e) al ch i j = Cs r al ch (i + 1) (j + 1) := by
  intro d
  induction d using Nat.strongRecOn with
  | ind d ih =>
    intro i j hd he
    by_cases h : i < j
    · rw [Cs_eq (lss r e) al ch h, Cs_eq r al ch (show i + 1 < j + 1 by omega), show j + 1 - (i + 1) - 1 = j - i - 1 by omega]
      exact inn_sh r al ch he _ _ h (fun a b a0 a1 a2 => ih (b - a) (by omega) a b rfl (by omega)) (j - i - 1) (by omega)
    · rw [Cs_no _ al ch (by omega), Cs_no r al ch (by omega)]
theorem Cs_pre (r : Nat → Int) (al ch : Int) {e i j : Nat} (h : j ≤ e) : Cs (lss r e) al ch i j = Cs r al ch i j :=
  Cs_congr _ i j rfl (fun k _ k1 => by unfold lss; rw [if_pos (by omega)])
/-- the cost from i up to j without e -/
def Ec (r : Nat → Int) (al ch : Int) (e i j : Nat) : Int := Cs (lss r e) al ch i (j - 1)
theorem Ec_self (r : Nat → Int) (al ch : Int) {i j : Nat} (h : i < j) : Ec r al ch i i j = Cs r al ch (i + 1) j := by
  unfold Ec
  rw [Cs_sh r al ch i _ i (j - 1) rfl (Nat.le_refl _), show j - 1 + 1 = j by omega]
/-- what the cost without e is not above -/
theorem Ec_le (r : Nat → Int) (al ch : Int) {e i j : Nat} (h0 : i < e) (h1 : e < j) : Ec r al ch e i j ≤ al + Ec r al ch e (i + 1) j ∧ ∀ m : Nat, i < m → m < j → m ≠ e → r i % 2 = 0 → r m % 2 = 1 → Ec r al ch e i j ≤ (if m < e then prc r ch i m + Cs r al ch (i + 1) m + Ec r al ch e (m + 1) j else prc r ch i m + Ec r al ch e (i + 1) m + Cs r al ch (m + 1) j) := by
  have k := Cs_le (lss r e) al ch (i := i) (j := j - 1) (by omega)
  refine ⟨k.1, fun m m0 m1 m2 m3 m4 => ?_⟩
  have ri : lss r e i = r i := by unfold lss; rw [if_pos h0]
  by_cases hm : m < e
  · rw [if_pos hm]
    have rm : lss r e m = r m := by unfold lss; rw [if_pos hm]
    have := k.2 m m0 (by omega) (by rw [ri]; exact m3) (by rw [rm]; exact m4)
    rw [Cs_pre r al ch (i := i + 1) (j := m) (by omega)] at this
    have p : prc (lss r e) ch i m = prc r ch i m := by unfold prc; rw [ri, rm]
    rw [p] at this
    exact this
  · rw [if_neg hm]
    have rm : lss r e (m - 1) = r m := by unfold lss; rw [if_neg (by omega), show m - 1 + 1 = m by omega]
    by_cases hm1 : i < m - 1
    · have := k.2 (m - 1) hm1 (by omega) (by rw [ri]; exact m3) (by rw [rm]; exact m4)
      rw [Cs_sh r al ch e _ (m - 1 + 1) (j - 1) rfl (by omega), show m - 1 + 1 + 1 = m + 1 by omega, show j - 1 + 1 = j by omega] at this
      have p : prc (lss r e) ch i (m - 1) = prc r ch i m := by unfold prc; rw [ri, rm]
      rw [p] at this
      exact this
    · omega
theorem Ec_is (r : Nat → Int) (al ch : Int) {e i j : Nat} (h0 : i < e) (h1 : e < j) : Ec r al ch e i j = al + Ec r al ch e (i + 1) j ∨ ∃ m : Nat, i < m ∧ m < j ∧ m ≠ e ∧ r i % 2 = 0 ∧ r m % 2 = 1 ∧ Ec r al ch e i j = (if m < e then prc r ch i m + Cs r al ch (i + 1) m + Ec r al ch e (m + 1) j else prc r ch i m + Ec r al ch e (i + 1) m + Cs r al ch (m + 1) j) := by
  have ri : lss r e i = r i := by unfold lss; rw [if_pos h0]
  rcases Cs_is (lss r e) al ch (i := i) (j := j - 1) (by omega) with ⟨_, k⟩ | ⟨m, _, m0, m1, m2, m3, k⟩
  · exact Or.inl k
  · rw [ri] at m2
    by_cases hm : m < e
    · have rm : lss r e m = r m := by unfold lss; rw [if_pos hm]
      rw [rm] at m3
      refine Or.inr ⟨m, m0, by omega, by omega, m2, m3, ?_⟩
      rw [if_pos hm]
      have p : prc (lss r e) ch i m = prc r ch i m := by unfold prc; rw [ri, rm]
      rw [p, Cs_pre r al ch (i := i + 1) (j := m) (by omega)] at k
      exact k
    · have rm : lss r e m = r (m + 1) := by unfold lss; rw [if_neg hm]
      rw [rm] at m3
      refine Or.inr ⟨m + 1, by omega, by omega, by omega, m2, m3, ?_⟩
      rw [if_neg (by omega)]
      have p : prc (lss r e) ch i m = prc r ch i (m + 1) := by unfold prc; rw [ri, rm]
      rw [p, Cs_sh r al ch e _ (m + 1) (j - 1) rfl (by omega), show j - 1 + 1 = j by omega] at k
      exact k
/-- the least cost without one bracket, with its place: what the class's second table holds -/
def insx (C S : Nat → Nat → Int) (r : Nat → Int) (ch : Int) (i j m : Nat) : Int := 256 * prc r ch i m + (if 256 * C (i + 1) m + S (m + 1) j < S (i + 1) m + 256 * C (m + 1) j then 256 * C (i + 1) m + S (m + 1) j else S (i + 1) m + 256 * C (m + 1) j)
def ins (C S : Nat → Nat → Int) (r pl : Nat → Int) (al ch : Int) (i j : Nat) : Nat → Int
  | 0 => if 256 * al + S (i + 1) j < 256 * C (i + 1) j + pl i then 256 * al + S (i + 1) j else 256 * C (i + 1) j + pl i
  | t + 1 => if r i % 2 = 0 ∧ r (i + 1 + t) % 2 = 1 then (if insx C S r ch i j (i + 1 + t) < ins C S r pl al ch i j t then insx C S r ch i j (i + 1 + t) else ins C S r pl al ch i j t) else ins C S r pl al ch i j t
/-- least of the costs without e, for e from i up to one ahead of j -/
def LeS (r pl : Nat → Int) (al ch : Int) (i j : Nat) (s : Int) : Prop := (j ≤ i → s = 268435456) ∧ (i < j → (∀ e : Nat, i ≤ e → e < j → s ≤ 256 * Ec r al ch e i j + pl e) ∧ ∃ e : Nat, i ≤ e ∧ e < j ∧ s = 256 * Ec r al ch e i j + pl e)
theorem Ec_bd (r : Nat → Int) {al ch : Int} (ha : 0 ≤ al ∧ al ≤ 99) (hc : 0 ≤ ch) {e i j : Nat} (h1 : i ≤ e) (h2 : e < j) (h3 : j ≤ 240) : 0 ≤ Ec r al ch e i j ∧ Ec r al ch e i j ≤ 99 * 240 := by
  have := Cs_bd (lss r e) ha hc (j - 1 - i) i (j - 1) rfl
  unfold Ec
  omega
theorem LeS_bd {r pl : Nat → Int} {al ch : Int} (ha : 0 ≤ al ∧ al ≤ 99) (hc : 0 ≤ ch) (hp : ∀ k, 0 ≤ pl k ∧ pl k < 240) {i j : Nat} (hj : j ≤ 240) {s : Int} (h : LeS r pl al ch i j s) : 0 ≤ s ∧ s ≤ 268435456 := by
  by_cases hij : i < j
  · obtain ⟨_, e, e0, e1, e2⟩ := h.2 hij
    have := Ec_bd r ha hc e0 e1 hj
    have := hp e
    omega
  · rw [h.1 (by omega)]
    omega
theorem ins_pr (C S : Nat → Nat → Int) (r pl : Nat → Int) (al ch : Int) (i j : Nat) : ∀ t : Nat, ins C S r pl al ch i j t ≤ 256 * C (i + 1) j + pl i ∧ ins C S r pl al ch i j t ≤ 256 * al + S (i + 1) j ∧ (∀ m : Nat, i < m → m < i + 1 + t → r i % 2 = 0 → r m % 2 = 1 → ins C S r pl al ch i j t ≤ 256 * prc r ch i m + (S (i + 1) m + 256 * C (m + 1) j) ∧ ins C S r pl al ch i j t ≤ 256 * prc r ch i m + (256 * C (i + 1) m + S (m + 1) j)) ∧
    (ins C S r pl al ch i j t = 256 * C (i + 1) j + pl i ∨ ins C S r pl al ch i j t = 256 * al + S (i + 1) j ∨ ∃ m : Nat, i < m ∧ m < i + 1 + t ∧ r i % 2 = 0 ∧ r m % 2 = 1 ∧ (ins C S r pl al ch i j t = 256 * prc r ch i m + (S (i + 1) m + 256 * C (m + 1) j) ∨ ins C S r pl al ch i j t = 256 * prc r ch i m + (256 * C (i + 1) m + S (m + 1) j))) := by
  intro t
  induction t with
  | zero =>
    rw [ins]
    split
    · exact ⟨by omega, Int.le_refl _, fun m h0 h1 => by omega, Or.inr (Or.inl rfl)⟩
    · exact ⟨Int.le_refl _, by omega, fun m h0 h1 => by omega, Or.inl rfl⟩
  | succ t ih =>
    obtain ⟨i1, i2, i3, i4⟩ := ih
    have old : ∀ x : Int, x = ins C S r pl al ch i j t → (x = 256 * C (i + 1) j + pl i ∨ x = 256 * al + S (i + 1) j ∨ ∃ m : Nat, i < m ∧ m < i + 1 + (t + 1) ∧ r i % 2 = 0 ∧ r m % 2 = 1 ∧ (x = 256 * prc r ch i m + (S (i + 1) m + 256 * C (m + 1) j) ∨ x = 256 * prc r ch i m + (256 * C (i + 1) m + S (m + 1) j))) := by
      intro x hx
      rw [hx]
      rcases i4 with h | h | ⟨m, a, b, c⟩
      · exact Or.inl h
      · exact Or.inr (Or.inl h)
      · exact Or.inr (Or.inr ⟨m, a, by omega, c⟩)
    rw [ins]
    by_cases hc : r i % 2 = 0 ∧ r (i + 1 + t) % 2 = 1
    · rw [if_pos hc]
      have ex : insx C S r ch i j (i + 1 + t) = 256 * prc r ch i (i + 1 + t) + (if 256 * C (i + 1) (i + 1 + t) + S (i + 1 + t + 1) j < S (i + 1) (i + 1 + t) + 256 * C (i + 1 + t + 1) j then 256 * C (i + 1) (i + 1 + t) + S (i + 1 + t + 1) j else S (i + 1) (i + 1 + t) + 256 * C (i + 1 + t + 1) j) := rfl
      generalize insx C S r ch i j (i + 1 + t) = x at ex ⊢
      generalize ha : S (i + 1) (i + 1 + t) + 256 * C (i + 1 + t + 1) j = a at ex
      generalize hb : 256 * C (i + 1) (i + 1 + t) + S (i + 1 + t + 1) j = b at ex
      have hx2 : x ≤ 256 * prc r ch i (i + 1 + t) + a ∧ x ≤ 256 * prc r ch i (i + 1 + t) + b ∧ (x = 256 * prc r ch i (i + 1 + t) + a ∨ x = 256 * prc r ch i (i + 1 + t) + b) := by
        split at ex <;> omega
      by_cases hlt : x < ins C S r pl al ch i j t
      · rw [if_pos hlt]
        refine ⟨by omega, by omega, fun m h0 h1 h2 h3 => ?_, Or.inr (Or.inr ⟨i + 1 + t, by omega, by omega, hc.1, hc.2, ?_⟩)⟩
        · by_cases e : m = i + 1 + t
          · subst e; rw [ha, hb]; exact ⟨hx2.1, hx2.2.1⟩
          · have := i3 m h0 (by omega) h2 h3; omega
        · rw [ha, hb]; exact hx2.2.2
      · rw [if_neg hlt]
        refine ⟨i1, i2, fun m h0 h1 h2 h3 => ?_, old _ rfl⟩
        by_cases e : m = i + 1 + t
        · subst e; rw [ha, hb]; omega
        · exact i3 m h0 (by omega) h2 h3
    · rw [if_neg hc]
      refine ⟨i1, i2, fun m h0 h1 h2 h3 => ?_, old _ rfl⟩
      by_cases e : m = i + 1 + t
      · subst e; exact absurd ⟨h2, h3⟩ hc
      · exact i3 m h0 (by omega) h2 h3
theorem LeS_step {r pl : Nat → Int} {al ch : Int} (ha : 0 ≤ al ∧ al ≤ 99) (hc : 0 ≤ ch) (hp : ∀ k, 0 ≤ pl k ∧ pl k < 240) {i j : Nat} (hij : i < j) (hj : j ≤ 240) {S : Nat → Nat → Int} (hS : ∀ a b, i < a → a ≤ b → b ≤ j → LeS r pl al ch a b (S a b)) : LeS r pl al ch i j (ins (Cs r al ch) S r pl al ch i j (j - i - 1)) := by
  obtain ⟨p1, p2, p3, p4⟩ := ins_pr (Cs r al ch) S r pl al ch i j (j - i - 1)
  generalize ins (Cs r al ch) S r pl al ch i j (j - i - 1) = s at p1 p2 p3 p4
  have b1 := Cs_bd r ha hc (j - (i + 1)) (i + 1) j rfl
  have bi := hp i
  have low : ∀ e : Nat, i ≤ e → e < j → s ≤ 256 * Ec r al ch e i j + pl e := by
    intro e e0 e1
    by_cases hei : e = i
    · subst hei; rw [Ec_self r al ch hij]; exact p1
    · rcases Ec_is r al ch (e := e) (i := i) (j := j) (by omega) e1 with k | ⟨m, m0, m1, m2, m3, m4, k⟩
      · have := ((hS (i + 1) j (by omega) (by omega) (by omega)).2 (by omega)).1 e (by omega) e1
        omega
      · have q := p3 m m0 (by omega) m3 m4
        by_cases hm : m < e
        · rw [if_pos hm] at k
          have := ((hS (m + 1) j (by omega) (by omega) (by omega)).2 (by omega)).1 e (by omega) e1
          omega
        · rw [if_neg hm] at k
          have := ((hS (i + 1) m (by omega) (by omega) (by omega)).2 (by omega)).1 e (by omega) (by omega)
          omega
  have att : ∀ e : Nat, i ≤ e → e < j → 256 * Ec r al ch e i j + pl e ≤ s → ∃ e : Nat, i ≤ e ∧ e < j ∧ s = 256 * Ec r al ch e i j + pl e := fun e e0 e1 h => ⟨e, e0, e1, by have := low e e0 e1; omega⟩
  refine ⟨fun h => by omega, fun _ => ⟨low, ?_⟩⟩
  rcases p4 with h | h | ⟨m, m0, m1, m2, m3, h⟩
  · exact att i (by omega) hij (by rw [Ec_self r al ch hij]; omega)
  · have l := hS (i + 1) j (by omega) (by omega) (by omega)
    by_cases hj1 : i + 1 < j
    · obtain ⟨_, e, e0, e1, e2⟩ := l.2 hj1
      have := (Ec_le r al ch (e := e) (i := i) (j := j) (by omega) e1).1
      exact att e (by omega) e1 (by omega)
    · have := l.1 (by omega)
      omega
  · have pr : 0 ≤ prc r ch i m := by unfold prc; split <;> omega
    rcases h with h | h
    · have l := hS (i + 1) m (by omega) (by omega) (by omega)
      have b2 := Cs_bd r ha hc (j - (m + 1)) (m + 1) j rfl
      by_cases hm1 : i + 1 < m
      · obtain ⟨_, e, e0, e1, e2⟩ := l.2 hm1
        have := (Ec_le r al ch (e := e) (i := i) (j := j) (by omega) (by omega)).2 m m0 (by omega) (by omega) m2 m3
        rw [if_neg (by omega)] at this
        exact att e (by omega) (by omega) (by omega)
      · have := l.1 (by omega)
        omega
    · have l := hS (m + 1) j (by omega) (by omega) (by omega)
      have b2 := Cs_bd r ha hc (m - (i + 1)) (i + 1) m rfl
      by_cases hm1 : m + 1 < j
      · obtain ⟨_, e, e0, e1, e2⟩ := l.2 hm1
        have := (Ec_le r al ch (e := e) (i := i) (j := j) (by omega) (by omega)).2 m m0 (by omega) (by omega) m2 m3
        rw [if_pos (by omega)] at this
        exact att e (by omega) (by omega) (by omega)
      · have := l.1 (by omega)
        omega
