/-! ===== the culprit ===== -/
theorem LeS_step2 {r pl : Nat → Int} {al ch : Int} (ha : 0 ≤ al ∧ al ≤ 99) (hc : 0 ≤ ch) (hp : ∀ k, 0 ≤ pl k ∧ pl k < 240) {i j : Nat} (hij : i < j) (hj : j ≤ 240) {S : Nat → Nat → Int} (hSj : ∀ a, i < a → a ≤ j → LeS r pl al ch a j (S a j)) (hSm : ∀ m, i < m → m < j → r m % 2 = 1 → LeS r pl al ch (i + 1) m (S (i + 1) m)) : LeS r pl al ch i j (ins (Cs r al ch) S r pl al ch i j (j - i - 1)) := by
  obtain ⟨p1, p2, p3, p4⟩ := ins_pr (Cs r al ch) S r pl al ch i j (j - i - 1)
  generalize ins (Cs r al ch) S r pl al ch i j (j - i - 1) = s at p1 p2 p3 p4
  have b1 := Cs_bd r ha hc (j - (i + 1)) (i + 1) j rfl
  have bi := hp i
  have low : ∀ e : Nat, i ≤ e → e < j → s ≤ 256 * Ec r al ch e i j + pl e := by
    intro e e0 e1
    by_cases hei : e = i
    · subst hei; rw [Ec_self r al ch hij]; exact p1
    · rcases Ec_is r al ch (e := e) (i := i) (j := j) (by omega) e1 with k | ⟨m, m0, m1, m2, m3, m4, k⟩
      · have := ((hSj (i + 1) (by omega) (by omega)).2 (by omega)).1 e (by omega) e1
        omega
      · have q := p3 m m0 (by omega) m3 m4
        by_cases hm : m < e
        · rw [if_pos hm] at k
          have := ((hSj (m + 1) (by omega) (by omega)).2 (by omega)).1 e (by omega) e1
          omega
        · rw [if_neg hm] at k
          have := ((hSm m m0 m1 m4).2 (by omega)).1 e (by omega) (by omega)
          omega
  have att : ∀ e : Nat, i ≤ e → e < j → 256 * Ec r al ch e i j + pl e ≤ s → ∃ e : Nat, i ≤ e ∧ e < j ∧ s = 256 * Ec r al ch e i j + pl e := fun e e0 e1 h => ⟨e, e0, e1, by have := low e e0 e1; omega⟩
  refine ⟨fun h => by omega, fun _ => ⟨low, ?_⟩⟩
  rcases p4 with h | h | ⟨m, m0, m1, m2, m3, h⟩
  · exact att i (by omega) hij (by rw [Ec_self r al ch hij]; omega)
  · have l := hSj (i + 1) (by omega) (by omega)
    by_cases hj1 : i + 1 < j
    · obtain ⟨_, e, e0, e1, e2⟩ := l.2 hj1
      have := (Ec_le r al ch (e := e) (i := i) (j := j) (by omega) e1).1
      exact att e (by omega) e1 (by omega)
    · have := l.1 (by omega)
      omega
  · have pr : 0 ≤ prc r ch i m := by unfold prc; split <;> omega
    rcases h with h | h
    · have l := hSm m m0 (by omega) m3
      have b2 := Cs_bd r ha hc (j - (m + 1)) (m + 1) j rfl
      by_cases hm1 : i + 1 < m
      · obtain ⟨_, e, e0, e1, e2⟩ := l.2 hm1
        have := (Ec_le r al ch (e := e) (i := i) (j := j) (by omega) (by omega)).2 m m0 (by omega) (by omega) m2 m3
        rw [if_neg (by omega)] at this
        exact att e (by omega) (by omega) (by omega)
      · have := l.1 (by omega)
        omega
    · have l := hSj (m + 1) (by omega) (by omega)
      have b2 := Cs_bd r ha hc (m - (i + 1)) (i + 1) m rfl
      by_cases hm1 : m + 1 < j
      · obtain ⟨_, e, e0, e1, e2⟩ := l.2 hm1
        have := (Ec_le r al ch (e := e) (i := i) (j := j) (by omega) (by omega)).2 m m0 (by omega) (by omega) m2 m3
        rw [if_pos (by omega)] at this
        exact att e (by omega) (by omega) (by omega)
      · have := l.1 (by omega)
        omega

theorem ins_s {C S : Nat → Nat → Int} {r pl : Nat → Int} {al ch : Int} {i j t : Nat} (h : r i % 2 = 0 ∧ r (i + 1 + t) % 2 = 1) : ins C S r pl al ch i j (t + 1) = if insx C S r ch i j (i + 1 + t) < ins C S r pl al ch i j t then insx C S r ch i j (i + 1 + t) else ins C S r pl al ch i j t := by rw [ins, if_pos h]
theorem ins_n {C S : Nat → Nat → Int} {r pl : Nat → Int} {al ch : Int} {i j t : Nat} (h : ¬ (r i % 2 = 0 ∧ r (i + 1 + t) % 2 = 1)) : ins C S r pl al ch i j (t + 1) = ins C S r pl al ch i j t := by rw [ins, if_neg h]
theorem placed_at {c p : Int} (M : Mem) (h0 : 0 ≤ c ∧ c ≤ 1000000) (h1 : 0 ≤ p ∧ p ≤ 1000) : f_X2_placed c p M = some (256 * c + p) := by
  unfold f_X2_placed
  rw [w32_of (i := c * 256) (by omega) (by omega), w32_of (by omega) (by omega)]
  exact congrArg some (by omega)
def plI (R : Nat → Int) (N : Nat) (k : Nat) : Int := plc R N k
theorem plI_bd (R : Nat → Int) {N : Nat} (hN : N ≤ 240) (k : Nat) : 0 ≤ plI R N k ∧ plI R N k < 240 := plc_lt R N hN k
def SSc (R : Nat → Int) (N : Nat) (al ch : Int) (M : Mem) (i j : Nat) : Prop := ∀ k : Nat, i ≤ k → k ≤ j → LeS (ro R N) (plI R N) al ch k j (M 71 (tri j + k))
def Sof (M : Mem) (a b : Nat) : Int := M 71 (tri b + a)
theorem sp_L74 {R : Nat → Int} {N : Nat} (hN : N ≤ 240) (hR : RB7 R) {al ch : Int} (ha : 0 ≤ al ∧ al ≤ 99) (hc : 0 ≤ ch ∧ ch ≤ 99) {i j : Nat} (hij : i < j) (hj : j ≤ kk R N) {M : Mem} (hG : GV R N M) (h15 : M 66 15 = ch) (hcol : CC (ro R N) al ch M (i + 1) j) (hcl : ∀ m : Nat, i < m → m < j → ro R N m % 2 = 1 → CC (ro R N) al ch M (i + 1) m) (hs : SSc R N al ch M (i + 1) j) (hsm : ∀ m : Nat, i < m → m < j → ro R N m % 2 = 1 → SSc R N al ch M (i + 1) m) (hop : ro R N i % 2 = 0) :
    ∀ (s fuel t : Nat) (v4 v6 : Int), j - i - 1 - t = s → s < fuel → t ≤ j - i - 1 → v6 = i + 1 + t → v4 = ins (Cs (ro R N) al ch) (Sof M) (ro R N) (plI R N) al ch i j t → Ok (f_X2_settleSpared_L74 fuel i j (tri j) v4 1 v6 M) (fun M' => ∀ b k, M' b k = if b = 71 ∧ k = tri j + i then ins (Cs (ro R N) al ch) (Sof M) (ro R N) (plI R N) al ch i j (j - i - 1) else M b k) := by
  have hk := (kk_is R N).2
  have bj := tri_bd (j := j) (by omega)
  have pb := plI_bd R hN
  intro s
  induction s with
  | zero =>
    intro fuel t v4 v6 hs' hf ht hv h4
    obtain ⟨fuel, rfl⟩ : ∃ f, fuel = f + 1 := ⟨fuel - 1, by omega⟩
    have : t = j - i - 1 := by omega
    subst this
    rw [f_X2_settleSpared_L74, w32_of (i := tri j + (i : Int)) (by omega) (by omega)]
    refine .ifF (by decide) (.ifT (by omega) (.ifT (by omega) (.put fun M1 e1 => .ret fun b k => ?_)))
    rw [e1, h4]
  | succ s ih =>
    intro fuel t v4 v6 hs' hf ht hv h4
    obtain ⟨fuel, rfl⟩ : ∃ f, fuel = f + 1 := ⟨fuel - 1, by omega⟩
    have hv2 : v6 = ((i + 1 + t : Nat) : Int) := by omega
    subst hv2
    have g := hG.2 (i + 1 + t) (by omega)
    rw [f_X2_settleSpared_L74]
    refine .ifF (by decide) (.ifF (by omega) (.ifT (by omega) ?_))
    rw [g.2.2]
    by_cases hm : ro R N (i + 1 + t) % 2 = 0
    · refine .ifT hm (.let fun u eu => ?_)
      rw [w32_of (by omega) (by omega)] at eu
      have e : ins (Cs (ro R N) al ch) (Sof M) (ro R N) (plI R N) al ch i j (t + 1) = ins (Cs (ro R N) al ch) (Sof M) (ro R N) (plI R N) al ch i j t := ins_n (fun c => by omega)
      exact ih fuel (t + 1) v4 u (by omega) (by omega) (by omega) (by omega) (by rw [e]; exact h4)
    · have hm1 : ro R N (i + 1 + t) % 2 = 1 := by omega
      have bm := tri_bd (j := i + 1 + t) (by omega)
      have c1 := hcl (i + 1 + t) (by omega) (by omega) hm1 (i + 1) (Nat.le_refl _) (by omega)
      have c2 := hcol (i + 1 + t + 1) (by omega) (by omega)
      have d1 := Cs_b2 (ro R N) (al := al) (ch := ch) ha hc.1 (i := i + 1) (j := i + 1 + t) (by omega)
      have d2 := Cs_b2 (ro R N) (al := al) (ch := ch) ha hc.1 (i := i + 1 + t + 1) (j := j) (by omega)
      have s1 := LeS_bd ha hc.1 pb (j := i + 1 + t) (by omega) (hsm (i + 1 + t) (by omega) (by omega) hm1 (i + 1) (Nat.le_refl _) (by omega))
      have s2 := LeS_bd ha hc.1 pb (j := j) (by omega) (hs (i + 1 + t + 1) (by omega) (by omega))
      have pp : 0 ≤ prc (ro R N) ch i (i + 1 + t) ∧ prc (ro R N) ch i (i + 1 + t) ≤ 99 := by unfold prc; split <;> omega
      refine .ifF hm ?_
      rw [w32_of (i := (i : Int) + 1) (by omega) (by omega)]
      refine .bind (.val (spot_at ((i : Int) + 1) (i + 1 + t) M (by omega) (by omega) (by omega))) (fun q hq => ?_)
      rw [show tri (i + 1 + t) + ((i : Int) + 1) = tri (i + 1 + t) + ((i + 1 : Nat) : Int) by omega] at hq
      subst hq
      refine .bind (.val (pairPrice_at hN hR hG h15 (by omega) (by omega))) (fun q hq => ?_)
      subst hq
      refine .bind (.val (placed_at M (by omega) (by omega))) (fun q hq => ?_)
      subst hq
      rw [w32_of (i := tri j + ((i + 1 + t : Nat) : Int)) (by omega) (by omega), w32_of (i := tri j + ((i + 1 + t : Nat) : Int) + 1) (by omega) (by omega), show tri j + ((i + 1 + t : Nat) : Int) + 1 = tri j + ((i + 1 + t + 1 : Nat) : Int) by omega, c1, c2]
      refine .ifT (by omega) (.ifT (by omega) (.bind (.val (placed_at M (by omega) (by omega))) (fun q hq => ?_)))
      subst hq
      rw [w32_of (i := M 71 (tri (i + 1 + t) + ((i + 1 : Nat) : Int)) + (256 * Cs (ro R N) al ch (i + 1 + t + 1) j + 0)) (by omega) (by omega)]
      refine .let fun x9 ex9 => .bind (.val (placed_at M (by omega) (by omega))) (fun q hq => ?_)
      subst hq
      rw [w32_of (i := 256 * Cs (ro R N) al ch (i + 1) (i + 1 + t) + 0 + M 71 (tri j + ((i + 1 + t + 1 : Nat) : Int))) (by omega) (by omega)]
      refine .let fun x10 ex10 => .let fun xm exm => ?_
      have f9 : x9 = Sof M (i + 1) (i + 1 + t) + 256 * Cs (ro R N) al ch (i + 1 + t + 1) j := by rw [ex9]; unfold Sof; omega
      have f10 : x10 = 256 * Cs (ro R N) al ch (i + 1) (i + 1 + t) + Sof M (i + 1 + t + 1) j := by rw [ex10]; unfold Sof; omega
      have fm : 256 * prc (ro R N) ch i (i + 1 + t) + xm = insx (Cs (ro R N) al ch) (Sof M) (ro R N) ch i j (i + 1 + t) := by unfold insx; rw [exm, f9, f10]
      have bm2 : 0 ≤ xm ∧ xm ≤ 300000000 := by rw [exm]; split <;> omega
      rw [w32_of (i := 256 * prc (ro R N) ch i (i + 1 + t) + 0 + xm) (by omega) (by omega), Int.add_zero, fm]
      refine .let fun x ex => .let fun u eu => ?_
      rw [w32_of (by omega) (by omega)] at eu
      refine ih fuel (t + 1) x u (by omega) (by omega) (by omega) (by omega) ?_
      rw [ex, h4, ins_s ⟨hop, hm1⟩]
theorem spared_ok {R : Nat → Int} {N : Nat} (hN : N ≤ 240) (hR : RB7 R) {al ch : Int} (ha : 0 ≤ al ∧ al ≤ 99) (hc : 0 ≤ ch ∧ ch ≤ 99) {i j : Nat} (hij : i < j) (hj : j ≤ kk R N) (M : Mem) (hG : GV R N M) (h13 : M 66 13 = al) (h15 : M 66 15 = ch) (hcol : CC (ro R N) al ch M (i + 1) j) (hcl : ∀ m : Nat, i < m → m < j → ro R N m % 2 = 1 → CC (ro R N) al ch M (i + 1) m) (hs : SSc R N al ch M (i + 1) j) (hsm : ∀ m : Nat, i < m → m < j → ro R N m % 2 = 1 → SSc R N al ch M (i + 1) m) :
    Ok (f_X2_settleSpared i j M) (fun M' => LeS (ro R N) (plI R N) al ch i j (M' 71 (tri j + i)) ∧ ∀ b k, ¬ (b = 71 ∧ k = tri j + i) → M' b k = M b k) := by
  have hk := (kk_is R N).2
  have bj := tri_bd (j := j) (by omega)
  have pb := plI_bd R hN
  have g := hG.2 i (by omega)
  have c0 := hcol (i + 1) (Nat.le_refl _) (by omega)
  have d0 := Cs_b2 (ro R N) (al := al) (ch := ch) ha hc.1 (i := i + 1) (j := j) (by omega)
  have s0 := LeS_bd ha hc.1 pb (j := j) (by omega) (hs (i + 1) (Nat.le_refl _) (by omega))
  have p0 := pb i
  have g1 : M 67 i = plI R N i := g.1
  have fin : ∀ M' : Mem, (∀ b k, M' b k = if b = 71 ∧ k = tri j + i then ins (Cs (ro R N) al ch) (Sof M) (ro R N) (plI R N) al ch i j (j - i - 1) else M b k) → LeS (ro R N) (plI R N) al ch i j (M' 71 (tri j + i)) ∧ ∀ b k, ¬ (b = 71 ∧ k = tri j + i) → M' b k = M b k := by
    intro M' e
    refine ⟨?_, fun b k hb => by rw [e, if_neg hb]⟩
    rw [e, if_pos ⟨rfl, rfl⟩]
    exact LeS_step2 ha hc.1 pb hij (by omega) (S := Sof M) (fun a a0 a1 => hs a (by omega) a1) (fun m m0 m1 m2 => hsm m m0 m1 m2 (i + 1) (Nat.le_refl _) (by omega))
  unfold f_X2_settleSpared
  refine .bind (.val (spot_at 0 j M (by omega) (by omega) (by omega))) (fun q hq => ?_)
  rw [Int.add_zero] at hq
  subst hq
  rw [w32_of (i := tri j + (i : Int)) (by omega) (by omega), w32_of (i := tri j + (i : Int) + 1) (by omega) (by omega), show tri j + (i : Int) + 1 = tri j + ((i + 1 : Nat) : Int) by omega, c0, g1, h13]
  refine .ifT (by omega) (.ifT (by omega) (.bind (.val (placed_at M (by omega) (by omega))) (fun q hq => ?_)))
  subst hq
  refine .bind (.val (placed_at M (by omega) (by omega))) (fun q hq => ?_)
  subst hq
  rw [w32_of (i := 256 * al + 0 + M 71 (tri j + ((i + 1 : Nat) : Int))) (by omega) (by omega), Int.add_zero]
  refine .let fun x ex => ?_
  have fx : x = ins (Cs (ro R N) al ch) (Sof M) (ro R N) (plI R N) al ch i j 0 := by rw [ex]; rfl
  rw [g.2.2]
  refine .ifC (fun ho => .let fun u eu => ?_) (fun ho => .let fun u eu => ?_)
  · rw [w32_of (by omega) (by omega)] at eu
    exact (sp_L74 hN hR ha hc hij hj hG h15 hcol hcl hs hsm ho (j - i - 1) 4096 0 x u (by omega) (by omega) (by omega) (by omega) fx).mono fin
  · rw [f_X2_settleSpared_L74, w32_of (i := tri j + (i : Int)) (by omega) (by omega)]
    refine .ifT rfl (.ifT (by omega) (.put fun M1 e1 => .ret (fin M1 (fun b k => ?_))))
    have e : ∀ t, ins (Cs (ro R N) al ch) (Sof M) (ro R N) (plI R N) al ch i j t = ins (Cs (ro R N) al ch) (Sof M) (ro R N) (plI R N) al ch i j 0 := by
      intro t
      induction t with
      | zero => rfl
      | succ t iht => rw [ins_n (fun c => ho c.1)]; exact iht
    rw [e1, fx, e (j - i - 1)]
def SST (R : Nat → Int) (N : Nat) (al ch : Int) (M : Mem) (j : Nat) : Prop := ∀ j' : Nat, j' < j → isE (ro R N) (kk R N) j' → SSc R N al ch M 0 j'
theorem ls_L40 {R : Nat → Int} {N : Nat} (hN : N ≤ 240) (hR : RB7 R) {al ch : Int} (ha : 0 ≤ al ∧ al ≤ 99) (hc : 0 ≤ ch ∧ ch ≤ 99) (k : Int → Mem → Option (Int × Mem)) {Q : Int × Mem → Prop} {j : Nat} (hj : j ≤ kk R N) (hjE : isE (ro R N) (kk R N) j) (M0 : Mem) (hK : ∀ M' : Mem, SSc R N al ch M' 0 j → (∀ b p, (∀ k : Nat, k ≤ j → ¬ (b = 71 ∧ p = tri j + k)) → M' b p = M0 b p) → Ok (k j M') Q) :
    ∀ (i fuel : Nat) (v3 : Int) (M : Mem), i < fuel → i ≤ j → v3 = (i : Int) - 1 → GV R N M → M 66 13 = al → M 66 15 = ch → CT (ro R N) al ch (kk R N) M (kk R N + 1) → SSc R N al ch M i j → SST R N al ch M j → (∀ b p, (∀ k : Nat, k ≤ j → ¬ (b = 71 ∧ p = tri j + k)) → M b p = M0 b p) → Ok (f_X2_leastSpared_L40 k fuel j v3 M) Q := by
  have hk := (kk_is R N).2
  intro i
  induction i with
  | zero =>
    intro fuel v3 M hf hi hv hG h13 h15 hT hcol hct hfr
    obtain ⟨fuel, rfl⟩ : ∃ f, fuel = f + 1 := ⟨fuel - 1, by omega⟩
    rw [f_X2_leastSpared_L40]
    exact .ifT (by omega) (hK M hcol hfr)
  | succ i ih =>
    intro fuel v3 M hf hi hv hG h13 h15 hT hcol hct hfr
    obtain ⟨fuel, rfl⟩ : ∃ f, fuel = f + 1 := ⟨fuel - 1, by omega⟩
    have hv2 : v3 = (i : Int) := by omega
    subst hv2
    rw [f_X2_leastSpared_L40]
    refine .ifF (by omega) (.bind (spared_ok hN hR ha hc (i := i) (j := j) (by omega) hj M hG h13 h15 (fun k k0 k1 => hT j (by omega) hjE k (by omega) k1) (fun m m0 m1 m2 k k0 k1 => hT m (by omega) (Or.inr ⟨by omega, m2⟩) k (by omega) k1) hcol (fun m m0 m1 m2 k k0 k1 => hct m m1 (Or.inr ⟨by omega, m2⟩) k (by omega) k1)) (fun p hp => .let fun u eu => ?_))
    rw [w32_of (by omega) (by omega)] at eu
    obtain ⟨hp1, hp⟩ := hp
    have oth : ∀ b q, b ≠ 71 → p b q = M b q := fun b q h => hp b q (by omega)
    refine ih fuel u p (by omega) (by omega) (by omega) ⟨by rw [oth _ _ (by omega)]; exact hG.1, fun k hk2 => by rw [oth _ _ (by omega), oth _ _ (by omega), oth _ _ (by omega)]; exact hG.2 k hk2⟩ (by rw [oth _ _ (by omega)]; exact h13) (by rw [oth _ _ (by omega)]; exact h15) (fun j' j0 je k k0 k1 => by rw [oth _ _ (by omega)]; exact hT j' j0 je k k0 k1) (fun k k0 k1 => ?_) (fun j' j0 je k k0 k1 => ?_) (fun b q hb => ?_)
    · by_cases e : k = i
      · subst e; exact hp1
      · rw [hp _ _ (by omega)]; exact hcol k (by omega) k1
    · have := tri_lt j0
      have := (tri_ge 0 j').2
      rw [hp _ _ (by omega)]; exact hct j' j0 je k k0 k1
    · rw [hp b q (hb i (by omega))]; exact hfr b q hb
theorem ls_L8 {R : Nat → Int} {N : Nat} (hN : N ≤ 240) (hR : RB7 R) {al ch : Int} (ha : 0 ≤ al ∧ al ≤ 99) (hc : 0 ≤ ch ∧ ch ≤ 99) (M0 : Mem) : ∀ (s fuel j : Nat) (v2 : Int) (M : Mem), kk R N + 1 - j = s → s < fuel → j ≤ kk R N + 1 → v2 = j → GV R N M → M 66 13 = al → M 66 15 = ch → CT (ro R N) al ch (kk R N) M (kk R N + 1) → SST R N al ch M j → (∀ c i, c ≠ 71 → M c i = M0 c i) →
    Ok (f_X2_leastSpared_L8 fuel v2 M) (fun p => LeS (ro R N) (plI R N) al ch 0 (kk R N) p.1 ∧ ∀ c i, c ≠ 71 → p.2 c i = M0 c i) := by
  have hk := (kk_is R N).2
  intro s
  induction s with
  | zero =>
    intro fuel j v2 M hs hf hj hv hG h13 h15 hT hct hfr
    obtain ⟨fuel, rfl⟩ : ∃ f, fuel = f + 1 := ⟨fuel - 1, by omega⟩
    have : j = kk R N + 1 := by omega
    subst this
    have b := tri_bd (j := kk R N) (by omega)
    rw [f_X2_leastSpared_L8, hG.1]
    refine .ifT (by omega) (.bind (.val (spot_at 0 (kk R N) M (by omega) (by omega) (by omega))) (fun q hq => .ifT (by omega) (.ret ⟨?_, hfr⟩)))
    rw [hq]
    exact hct (kk R N) (by omega) (Or.inl rfl) 0 (by omega) (by omega)
  | succ s ih =>
    intro fuel j v2 M hs hf hj hv hG h13 h15 hT hct hfr
    obtain ⟨fuel, rfl⟩ : ∃ f, fuel = f + 1 := ⟨fuel - 1, by omega⟩
    subst hv
    have b := tri_bd (j := j) (by omega)
    rw [f_X2_leastSpared_L8, hG.1]
    refine .ifF (by omega) (.bind (isEnd_at hN hG (j := j) (by omega)) (fun q hq => ?_))
    rcases hq with ⟨hq, he⟩ | ⟨hq, he⟩
    · refine .ifT hq (.let fun u eu => ?_)
      rw [w32_of (by omega) (by omega)] at eu
      refine ih fuel (j + 1) u M (by omega) (by omega) (by omega) (by omega) hG h13 h15 hT (fun j' j0 je => ?_) hfr
      by_cases e : j' = j
      · subst e; exact absurd je he
      · exact hct j' (by omega) je
    · refine .ifF hq (.bind (.val (spot_at j j M (by omega) (by omega) (by omega))) (fun q hq => .ifT (by omega) (.put fun M1 e1 => .let fun u eu => ?_)))
      subst hq
      rw [w32_of (by omega) (by omega)] at eu
      have oth : ∀ b q, b ≠ 71 → M1 b q = M b q := fun b q h => by rw [e1, if_neg (by omega)]
      have gv : ∀ M2 : Mem, (∀ b q, b ≠ 71 → M2 b q = M b q) → GV R N M2 ∧ M2 66 13 = al ∧ M2 66 15 = ch ∧ CT (ro R N) al ch (kk R N) M2 (kk R N + 1) := fun M2 o => ⟨⟨by rw [o _ _ (by omega)]; exact hG.1, fun k hk2 => by rw [o _ _ (by omega), o _ _ (by omega), o _ _ (by omega)]; exact hG.2 k hk2⟩, by rw [o _ _ (by omega)]; exact h13, by rw [o _ _ (by omega)]; exact h15, fun j' j0 je k k0 k1 => by rw [o _ _ (by omega)]; exact hT j' j0 je k k0 k1⟩
      obtain ⟨g1, g2, g3, g4⟩ := gv M1 oth
      refine ls_L40 hN hR ha hc _ (j := j) (by omega) he M1 (fun M2 hcc hfr2 => ?_) j 4096 u M1 (by omega) (Nat.le_refl _) (by omega) g1 g2 g3 g4 (fun k k0 k1 => ?_) (fun j' j0 je k k0 k1 => ?_) (fun b p _ => rfl)
      · refine .let fun w ew => ?_
        rw [w32_of (by omega) (by omega)] at ew
        have oth2 : ∀ b q, b ≠ 71 → M2 b q = M b q := fun b q h => (hfr2 b q (fun k _ c => h c.1)).trans (oth b q h)
        obtain ⟨g1, g2, g3, g4⟩ := gv M2 oth2
        refine ih fuel (j + 1) w M2 (by omega) (by omega) (by omega) (by omega) g1 g2 g3 g4 (fun j' j0 je => ?_) (fun c i h => (oth2 c i h).trans (hfr c i h))
        by_cases e : j' = j
        · subst e; exact hcc
        · intro k k0 k1
          have := tri_lt (j := j') (j' := j) (by omega)
          have := (tri_ge 0 j').2
          rw [hfr2 71 _ (fun k' _ c => by omega), e1, if_neg (by omega)]
          exact hct j' (by omega) je k k0 k1
      · have : k = j := by omega
        subst this
        rw [e1, if_pos ⟨rfl, rfl⟩]
        exact ⟨fun _ => rfl, fun h => by omega⟩
      · have := tri_lt j0
        have := (tri_ge 0 j').2
        rw [e1, if_neg (by omega)]; exact hct j' j0 je k k0 k1
