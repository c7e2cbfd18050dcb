/-! ===== the class prices a repair ===== -/
/-- the place of the k-th bracket -/
def plc (R : Nat → Int) : Nat → Nat → Nat
  | 0, _ => 0
  | n + 1, k => if R n ≠ -1 ∧ nb R n = k then n else plc R n k
theorem plc_nb {R : Nat → Int} : ∀ (N p k : Nat), p < N → R p ≠ -1 → nb R p = k → plc R N k = p := by
  intro N
  induction N with
  | zero => intro p k h; omega
  | succ N ih =>
    intro p k hp hr hk
    rw [plc]
    by_cases e : p = N
    · subst e; rw [if_pos ⟨hr, hk⟩]
    · have := nb_lt (R := R) (p := p) (n := N) (by omega) hr
      rw [if_neg (fun c => by omega)]
      exact ih p k (by omega) hr hk
def ro (R : Nat → Int) (N k : Nat) : Int := R (plc R N k)
theorem ro_nb {R : Nat → Int} {N p k : Nat} (hp : p < N) (hr : R p ≠ -1) (hk : nb R p = k) : ro R N k = R p := by unfold ro; rw [plc_nb N p k hp hr hk]
theorem plc_is {R : Nat → Int} {N k : Nat} (h : (k : Int) < nb R N) : ∃ p : Nat, p < N ∧ R p ≠ -1 ∧ nb R p = k ∧ plc R N k = p ∧ ro R N k = R p := by
  obtain ⟨p, a, b, c⟩ := nb_sur R N k (by omega) h
  exact ⟨p, a, b, c, plc_nb N p k a b c, ro_nb a b c⟩
theorem plc_lt (R : Nat → Int) (N : Nat) (hN : N ≤ 240) (k : Nat) : 0 ≤ ((plc R N k : Nat) : Int) ∧ ((plc R N k : Nat) : Int) < 240 := by
  have : ∀ n : Nat, plc R n k ≤ n - 1 := by
    intro n
    induction n with
    | zero => exact Nat.le_refl _
    | succ n ih => rw [plc]; split <;> omega
  have := this N
  by_cases h : N = 0
  · subst h; exact ⟨by omega, by show ((0 : Nat) : Int) < 240; omega⟩
  · omega
/-- how many brackets there are -/
def kk (R : Nat → Int) (N : Nat) : Nat := (nb R N).toNat
theorem kk_is (R : Nat → Int) (N : Nat) : ((kk R N : Nat) : Int) = nb R N ∧ kk R N ≤ N := by have := nb_bd R N; unfold kk; omega
def GV (R : Nat → Int) (N : Nat) (M : Mem) : Prop := M 66 10 = kk R N ∧ ∀ k : Nat, k < kk R N → M 67 k = plc R N k ∧ M 68 k = ro R N k ∧ M 69 k = ro R N k % 2
def MZ (c : Nat) (i : Int) : Prop := (c = 66 ∧ i = 10) ∨ (67 ≤ c ∧ c ≤ 69)
theorem gather_L7_ok {R : Nat → Int} {N : Nat} (hN : N ≤ 240) (hR : RB7 R) (o : Nat) (ho : o = 54 ∨ o = 60) : ∀ (r fuel n : Nat) (v2 : Int) (M : Mem), N - n = r → r < fuel → n ≤ N → v2 = n → M o 5 = N → (∀ p : Nat, p < N → M (o + 2) p = R p) → M 66 10 = nb R n → (∀ p : Nat, p < n → R p ≠ -1 → M 67 (nb R p) = p ∧ M 68 (nb R p) = R p ∧ M 69 (nb R p) = R p % 2) →
    Ok (f_X2_gather_L7 fuel o v2 M) (fun M' => M' 66 10 = nb R N ∧ (∀ p : Nat, p < N → R p ≠ -1 → M' 67 (nb R p) = p ∧ M' 68 (nb R p) = R p ∧ M' 69 (nb R p) = R p % 2) ∧ ∀ c i, ¬ MZ c i → M' c i = M c i) := by
  intro r
  induction r with
  | zero =>
    intro fuel n v2 M hr hf hn hv h5 h6 h10 hg
    obtain ⟨fuel, rfl⟩ : ∃ f, fuel = f + 1 := ⟨fuel - 1, by omega⟩
    have : n = N := by omega
    subst this
    rw [f_X2_gather_L7]
    exact .ifT (by omega) (.ret ⟨h10, hg, fun c i _ => rfl⟩)
  | succ r ih =>
    intro fuel n v2 M hr hf hn hv h5 h6 h10 hg
    obtain ⟨fuel, rfl⟩ : ∃ f, fuel = f + 1 := ⟨fuel - 1, by omega⟩
    subst hv
    have b := nb_bd R n
    have rn := hR n
    rw [f_X2_gather_L7]
    refine .ifF (by omega) (.ifF (by omega) (.bind (.val (roleAt_ok o n M (by omega))) (fun q hq => ?_)))
    have hq : q = R n := by rw [hq, if_pos (by omega)]; exact h6 n (by omega)
    subst hq
    refine .ifC (fun h => .let fun u eu => ?_) (fun h => ?_)
    · rw [w32_of (by omega) (by omega)] at eu
      refine ih fuel (n + 1) u M (by omega) (by omega) (by omega) (by omega) h5 h6 (by rw [nb_s0 h]; exact h10) (fun p hp hpr => ?_)
      by_cases e : p = n
      · subst e; exact absurd h hpr
      · exact hg p (by omega) hpr
    · have fin : ∀ (M1 M2 M3 : Mem) (x : Int), (∀ b i, M1 b i = if b = 67 ∧ i = M 66 10 then (n : Int) else M b i) → (∀ b i, M2 b i = if b = 68 ∧ i = M1 66 10 then R n else M1 b i) → (∀ b i, M3 b i = if b = 69 ∧ i = M2 66 10 then x else M2 b i) → x = R n % 2 →
          Ok (lt1 (up M3 66 10 (w32 ((M3 66 10) + 1))) fun M84 => lt1 (w32 ((n : Int) + 1)) fun v2_87 => f_X2_gather_L7 fuel o v2_87 M84) (fun M' => M' 66 10 = nb R N ∧ (∀ p : Nat, p < N → R p ≠ -1 → M' 67 (nb R p) = p ∧ M' 68 (nb R p) = R p ∧ M' 69 (nb R p) = R p % 2) ∧ ∀ c i, ¬ MZ c i → M' c i = M c i) := by
        intro M1 M2 M3 x e1 e2 e3 hx
        have a1 : M1 66 10 = nb R n := by rw [e1, if_neg (by omega)]; exact h10
        have a2 : M2 66 10 = nb R n := by rw [e2, if_neg (by omega)]; exact a1
        have a3 : M3 66 10 = nb R n := by rw [e3, if_neg (by omega)]; exact a2
        rw [h10] at e1
        rw [a1] at e2
        rw [a2] at e3
        rw [a3, w32_of (by omega) (by omega)]
        refine .put fun M4 e4 => .let fun u eu => ?_
        rw [w32_of (by omega) (by omega)] at eu
        have oth : ∀ c i, ¬ MZ c i → M4 c i = M c i := fun c i h => by
          unfold MZ at h
          rw [e4, if_neg (by omega), e3, if_neg (by omega), e2, if_neg (by omega), e1, if_neg (by omega)]
        refine (ih fuel (n + 1) u M4 (by omega) (by omega) (by omega) (by omega) (by rw [oth o 5 (by unfold MZ; omega)]; exact h5) (fun p hp => by rw [oth (o + 2) p (by unfold MZ; omega)]; exact h6 p hp) (by rw [nb_s1 h, e4, if_pos ⟨rfl, rfl⟩]) (fun p hp hpr => ?_)).mono (fun M' k => ⟨k.1, k.2.1, fun c i hc => (k.2.2 c i hc).trans (oth c i hc)⟩)
        by_cases e : p = n
        · subst e
          exact ⟨by rw [e4, if_neg (by omega), e3, if_neg (by omega), e2, if_neg (by omega), e1, if_pos ⟨rfl, rfl⟩], by rw [e4, if_neg (by omega), e3, if_neg (by omega), e2, if_pos ⟨rfl, rfl⟩], by rw [e4, if_neg (by omega), e3, if_pos ⟨rfl, rfl⟩, hx]⟩
        · have l := nb_lt (R := R) (p := p) (n := n) (by omega) hpr
          rw [e4, if_neg (by omega), e3, if_neg (by omega), e2, if_neg (by omega), e1, if_neg (by omega), e4, if_neg (by omega), e3, if_neg (by omega), e2, if_neg (by omega), e1, if_neg (by omega), e4, if_neg (by omega), e3, if_neg (by omega), e2, if_neg (by omega), e1, if_neg (by omega)]
          exact hg p (by omega) hpr
      refine .ifT (by omega) (.put fun M1 e1 => ?_)
      have a1 : M1 66 10 = nb R n := by rw [e1, if_neg (by omega)]; exact h10
      refine .ifT (by omega) (.put fun M2 e2 => ?_)
      have a2 : M2 66 10 = nb R n := by rw [e2, if_neg (by omega)]; exact a1
      rw [irm2 (by omega) (by omega)]
      refine .ifC (fun ho => .ifT (by omega) (.put fun M3 e3 => fin M1 M2 M3 1 e1 e2 e3 ho.symm)) (fun ho => .ifT (by omega) (.put fun M3 e3 => fin M1 M2 M3 0 e1 e2 e3 (by omega)))
theorem gather_ok {R : Nat → Int} {N : Nat} (hN : N ≤ 240) (hR : RB7 R) (o : Nat) (ho : o = 54 ∨ o = 60) (M : Mem) (h5 : M o 5 = N) (h6 : ∀ p : Nat, p < N → M (o + 2) p = R p) : Ok (f_X2_gather o M) (fun M' => GV R N M' ∧ ∀ c i, ¬ MZ c i → M' c i = M c i) := by
  unfold f_X2_gather
  refine .put fun M1 e1 => ?_
  refine (gather_L7_ok hN hR o ho N 4096 0 0 M1 (by omega) (by omega) (by omega) rfl (by rw [e1, if_neg (by omega)]; exact h5) (fun p hp => by rw [e1, if_neg (by omega)]; exact h6 p hp) (by rw [e1, if_pos ⟨rfl, rfl⟩]; rfl) (fun p hp => by omega)).mono (fun M' k => ⟨⟨by rw [k.1, (kk_is R N).1], fun j hj => ?_⟩, fun c i hc => ?_⟩)
  · have hj2 : (j : Int) < nb R N := by have := kk_is R N; omega
    obtain ⟨p, a, b, c, d, e⟩ := plc_is hj2
    have q := k.2.1 p a b
    rw [c] at q
    rw [d, e]
    exact q
  · rw [k.2.2 c i hc, e1, if_neg (by unfold MZ at hc; omega)]
def tri : Nat → Int
  | 0 => 0
  | j + 1 => tri j + j + 1
theorem tri_sq : ∀ j : Nat, (j : Int) * ((j : Int) + 1) = 2 * tri j := by
  intro j
  induction j with
  | zero => rfl
  | succ j ih =>
    have e : ((j + 1 : Nat) : Int) * (((j + 1 : Nat) : Int) + 1) = (j : Int) * ((j : Int) + 1) + 2 * ((j : Int) + 1) := by
      have c : ((j + 1 : Nat) : Int) = (j : Int) + 1 := by omega
      rw [c, show (j : Int) + 1 + 1 = (j : Int) + 2 by omega, Int.mul_add, Int.mul_add, Int.add_mul]
      omega
    rw [e, ih, tri]
    omega
theorem tri_ge : ∀ (d j : Nat), tri j + j * (min d 1) ≤ tri (j + d) ∧ 0 ≤ tri j := by
  intro d
  induction d with
  | zero =>
    intro j
    refine ⟨by show tri j + (j : Int) * 0 ≤ tri j; omega, ?_⟩
    induction j with
    | zero => exact Int.le_refl _
    | succ j ih => rw [tri]; omega
  | succ d ih =>
    intro j
    have := ih j
    refine ⟨?_, this.2⟩
    show _ ≤ tri (j + d) + ((j + d : Nat) : Int) + 1
    by_cases h : d = 0
    · subst h
      show tri j + (j : Int) * 1 ≤ tri (j + 0) + ((j + 0 : Nat) : Int) + 1
      rw [Nat.add_zero]; omega
    · have e1 : ((min (d + 1) 1 : Nat) : Int) = 1 := by omega
      have e2 : ((min d 1 : Nat) : Int) = 1 := by omega
      rw [e2] at this
      rw [e1]
      omega
theorem tri_lt {j j' : Nat} (h : j < j') : tri j + j < tri j' := by
  have k := (tri_ge (j' - (j + 1)) (j + 1)).1
  rw [show j + 1 + (j' - (j + 1)) = j' by omega] at k
  have e : tri (j + 1) = tri j + j + 1 := rfl
  have : 0 ≤ ((j + 1 : Nat) : Int) * ((min (j' - (j + 1)) 1 : Nat) : Int) := Int.mul_nonneg (by omega) (by omega)
  omega
theorem tri_bd {j : Nat} (h : j ≤ 240) : 0 ≤ tri j ∧ tri j ≤ 28920 := by
  refine ⟨(tri_ge 0 j).2, ?_⟩
  have e : tri 240 = 28920 := by decide +kernel
  by_cases hj : j = 240
  · rw [hj, e]; exact Int.le_refl _
  · have := tri_lt (j := j) (j' := 240) (by omega)
    omega
theorem tri_inj {j j' i i' : Nat} (h : i ≤ j) (h' : i' ≤ j') (e : tri j + i = tri j' + i') : j = j' ∧ i = i' := by
  by_cases h1 : j < j'
  · have := tri_lt h1; omega
  · by_cases h2 : j' < j
    · have := tri_lt h2; omega
    · have : j = j' := by omega
      subst this
      exact ⟨rfl, by omega⟩
theorem idv2 {v : Int} (h0 : 0 ≤ v) (h1 : v ≤ 1000000) : idv v 2 = v / 2 := by
  unfold idv
  rw [Int.tdiv_eq_ediv_of_nonneg h0, w32_of (by omega) (by omega)]
theorem spot_at (i : Int) (j : Nat) (M : Mem) (h0 : 0 ≤ i) (h1 : i ≤ 1000) (h2 : j ≤ 240) : f_X2_spot i j M = some (tri j + i) := by
  have s := tri_sq j
  have b := tri_bd h2
  unfold f_X2_spot
  rw [w32_of (i := (j : Int) + 1) (by omega) (by omega), s, w32_of (i := 2 * tri j) (by omega) (by omega), idv2 (by omega) (by omega), w32_of (by omega) (by omega)]
  exact congrArg some (by omega)
theorem pairPrice_at {R : Nat → Int} {N : Nat} {M : Mem} (hN : N ≤ 240) (hR : RB7 R) (h : GV R N M) {ch : Int} (hc : M 66 15 = ch) {i m : Nat} (hi : i < kk R N) (hm : m < kk R N) : f_X2_pairPrice i m M = some (prc (ro R N) ch i m) := by
  have k := (kk_is R N).2
  have ri : ro R N i = -1 ∨ (0 ≤ ro R N i ∧ ro R N i ≤ 7) := hR _
  unfold f_X2_pairPrice prc
  rw [if_pos (by omega), if_pos (by omega), (h.2 i hi).2.1, (h.2 m hm).2.1, w32_of (by omega) (by omega), hc]
  split <;> rfl
/-- a column of the class's table from i on -/
def CC (r : Nat → Int) (al ch : Int) (M : Mem) (i j : Nat) : Prop := ∀ k : Nat, i ≤ k → k ≤ j → M 70 (tri j + k) = Cs r al ch k j
theorem inn_cl (C : Nat → Nat → Int) (r : Nat → Int) (al ch : Int) (i j : Nat) (h : ¬ r i % 2 = 0) : ∀ t : Nat, inn C r al ch i j t = (al + C (i + 1) j, -1) := by
  intro t
  induction t with
  | zero => rfl
  | succ t ih => rw [inn, if_neg (fun c => h c.1)]; exact ih
theorem settle_K_ok {i j : Nat} (hj : j ≤ 240) (hi : i ≤ j) (x y : Int) (M : Mem) : Ok (f_X2_settle_K124 i (tri j) x y M) (fun p => p.1 = y ∧ ∀ b k, p.2 b k = if b = 70 ∧ k = tri j + i then x else M b k) := by
  have b := tri_bd hj
  unfold f_X2_settle_K124
  rw [w32_of (by omega) (by omega)]
  exact .ifT (by omega) (.put fun M1 e1 => .ret ⟨rfl, e1⟩)
theorem settle_L47_ok {R : Nat → Int} {N : Nat} (hN : N ≤ 240) (hR : RB7 R) {al ch : Int} (ha : 0 ≤ al ∧ al ≤ 99) (hc : 0 ≤ ch ∧ ch ≤ 99) {i j : Nat} (hij : i < j) (hj : j ≤ kk R N) {M : Mem} (hG : GV R N M) (h15 : M 66 15 = ch) (hcol : CC (ro R N) al ch M (i + 1) j) (hcl : ∀ m : Nat, i < m → m < j → ro R N m % 2 = 1 → CC (ro R N) al ch M (i + 1) m) (hop : ro R N i % 2 = 0) :
    ∀ (s fuel t : Nat) (v7 : Int), j - i - 1 - t = s → s < fuel → t ≤ j - i - 1 → v7 = i + 1 + t → Ok (f_X2_settle_L47 fuel i j (tri j) (inn (Cs (ro R N) al ch) (ro R N) al ch i j t).1 (inn (Cs (ro R N) al ch) (ro R N) al ch i j t).2 1 v7 M) (fun p => p.1 = Wy (ro R N) al ch i j ∧ ∀ b k, p.2 b k = if b = 70 ∧ k = tri j + i then Cs (ro R N) al ch i j else M b k) := by
  have hk := (kk_is R N).2
  have bj := tri_bd (j := j) (by omega)
  intro s
  induction s with
  | zero =>
    intro fuel t v7 hs hf ht hv
    obtain ⟨fuel, rfl⟩ : ∃ f, fuel = f + 1 := ⟨fuel - 1, by omega⟩
    have : t = j - i - 1 := by omega
    subst this
    rw [f_X2_settle_L47]
    refine .ifF (by decide) (.ifT (by omega) ?_)
    rw [← Cs_eq (ro R N) al ch hij]
    exact settle_K_ok (by omega) (by omega) _ _ M
  | succ s ih =>
    intro fuel t v7 hs hf ht hv
    obtain ⟨fuel, rfl⟩ : ∃ f, fuel = f + 1 := ⟨fuel - 1, by omega⟩
    have hv2 : v7 = ((i + 1 + t : Nat) : Int) := by omega
    subst hv2
    have g := hG.2 (i + 1 + t) (by omega)
    rw [f_X2_settle_L47]
    refine .ifF (by decide) (.ifF (by omega) (.ifT (by omega) ?_))
    rw [g.2.2]
    by_cases hm : ro R N (i + 1 + t) % 2 = 0
    · refine .ifT hm (.let fun u eu => ?_)
      rw [w32_of (by omega) (by omega)] at eu
      have e : inn (Cs (ro R N) al ch) (ro R N) al ch i j (t + 1) = inn (Cs (ro R N) al ch) (ro R N) al ch i j t := by rw [inn, if_neg (fun c => by omega)]
      rw [← e]
      exact ih fuel (t + 1) u (by omega) (by omega) (by omega) (by omega)
    · have hm1 : ro R N (i + 1 + t) % 2 = 1 := by omega
      have bm := tri_bd (j := i + 1 + t) (by omega)
      refine .ifF hm (.bind (.val (pairPrice_at hN hR hG h15 (by omega) (by omega))) (fun q hq => ?_))
      subst hq
      rw [w32_of (i := (i : Int) + 1) (by omega) (by omega)]
      refine .bind (.val (spot_at ((i : Int) + 1) (i + 1 + t) M (by omega) (by omega) (by omega))) (fun q hq => ?_)
      subst hq
      rw [w32_of (i := tri j + ((i + 1 + t : Nat) : Int)) (by omega) (by omega), w32_of (i := tri j + ((i + 1 + t : Nat) : Int) + 1) (by omega) (by omega)]
      have c1 := hcl (i + 1 + t) (by omega) (by omega) hm1 (i + 1) (Nat.le_refl _) (by omega)
      have c2 := hcol (i + 1 + t + 1) (by omega) (by omega)
      have d1 := Cs_bd (ro R N) (al := al) (ch := ch) ha hc.1 _ (i + 1) (i + 1 + t) rfl
      have d2 := Cs_bd (ro R N) (al := al) (ch := ch) ha hc.1 _ (i + 1 + t + 1) j rfl
      have pp : 0 ≤ prc (ro R N) ch i (i + 1 + t) ∧ prc (ro R N) ch i (i + 1 + t) ≤ 99 := by unfold prc; split <;> omega
      rw [show tri (i + 1 + t) + ((i : Int) + 1) = tri (i + 1 + t) + ((i + 1 : Nat) : Int) by omega, show tri j + ((i + 1 + t : Nat) : Int) + 1 = tri j + ((i + 1 + t + 1 : Nat) : Int) by omega, c1, c2]
      rw [w32_of (i := prc (ro R N) ch i (i + 1 + t) + Cs (ro R N) al ch (i + 1) (i + 1 + t)) (by omega) (by omega), w32_of (i := prc (ro R N) ch i (i + 1 + t) + Cs (ro R N) al ch (i + 1) (i + 1 + t) + Cs (ro R N) al ch (i + 1 + t + 1) j) (by omega) (by omega)]
      refine .ifT (by omega) (.ifT (by omega) (.let fun x ex => ?_))
      subst ex
      have e : ∀ z : Int × Int, z = (if prc (ro R N) ch i (i + 1 + t) + Cs (ro R N) al ch (i + 1) (i + 1 + t) + Cs (ro R N) al ch (i + 1 + t + 1) j < (inn (Cs (ro R N) al ch) (ro R N) al ch i j t).1 then (prc (ro R N) ch i (i + 1 + t) + Cs (ro R N) al ch (i + 1) (i + 1 + t) + Cs (ro R N) al ch (i + 1 + t + 1) j, ((i + 1 + t : Nat) : Int)) else inn (Cs (ro R N) al ch) (ro R N) al ch i j t) → inn (Cs (ro R N) al ch) (ro R N) al ch i j (t + 1) = z := fun z hz => by rw [inn, if_pos ⟨hop, hm1⟩, hz]
      refine .ifC (fun hle => .let fun u eu => ?_) (fun hle => .let fun u eu => ?_)
      · rw [w32_of (by omega) (by omega)] at eu
        have k := ih fuel (t + 1) u (by omega) (by omega) (by omega) (by omega)
        rw [e _ (by rw [if_neg (by omega)])] at k
        exact k
      · rw [w32_of (by omega) (by omega)] at eu
        have k := ih fuel (t + 1) u (by omega) (by omega) (by omega) (by omega)
        rw [e _ (by rw [if_pos (by omega)])] at k
        exact k
theorem settle_ok {R : Nat → Int} {N : Nat} (hN : N ≤ 240) (hR : RB7 R) {al ch : Int} (ha : 0 ≤ al ∧ al ≤ 99) (hc : 0 ≤ ch ∧ ch ≤ 99) {i j : Nat} (hij : i < j) (hj : j ≤ kk R N) (M : Mem) (hG : GV R N M) (h13 : M 66 13 = al) (h15 : M 66 15 = ch) (hcol : CC (ro R N) al ch M (i + 1) j) (hcl : ∀ m : Nat, i < m → m < j → ro R N m % 2 = 1 → CC (ro R N) al ch M (i + 1) m) :
    Ok (f_X2_settle i j M) (fun p => p.1 = Wy (ro R N) al ch i j ∧ ∀ b k, p.2 b k = if b = 70 ∧ k = tri j + i then Cs (ro R N) al ch i j else M b k) := by
  have hk := (kk_is R N).2
  have bj := tri_bd (j := j) (by omega)
  have g := hG.2 i (by omega)
  have c0 := hcol (i + 1) (Nat.le_refl _) (by omega)
  have d0 := Cs_bd (ro R N) (al := al) (ch := ch) ha hc.1 _ (i + 1) j rfl
  unfold f_X2_settle
  refine .bind (.val (spot_at 0 j M (by omega) (by omega) (by omega))) (fun q hq => ?_)
  rw [Int.add_zero] at hq
  subst hq
  rw [w32_of (i := tri j + (i : Int)) (by omega) (by omega), w32_of (i := tri j + (i : Int) + 1) (by omega) (by omega), show tri j + (i : Int) + 1 = tri j + ((i + 1 : Nat) : Int) by omega, c0, h13, w32_of (i := al + Cs (ro R N) al ch (i + 1) j) (by omega) (by omega)]
  refine .ifT (by omega) (.let fun x ex => .ifT (by omega) ?_)
  subst ex
  rw [g.2.2]
  refine .ifC (fun ho => .let fun u eu => ?_) (fun ho => .let fun u eu => ?_)
  · rw [w32_of (by omega) (by omega)] at eu
    exact settle_L47_ok hN hR ha hc hij hj hG h15 hcol hcl ho (j - i - 1) 4096 0 u (by omega) (by omega) (by omega) (by omega)
  · rw [f_X2_settle_L47]
    refine .ifT rfl ?_
    have e1 : Cs (ro R N) al ch i j = al + Cs (ro R N) al ch (i + 1) j := by rw [Cs_eq (ro R N) al ch hij, inn_cl _ _ _ _ _ _ ho]
    have e2 : Wy (ro R N) al ch i j = -1 := by unfold Wy; rw [inn_cl _ _ _ _ _ _ ho]
    rw [e1, e2]
    exact settle_K_ok (by omega) (by omega) _ _ M
def isE (r : Nat → Int) (K j : Nat) : Prop := j = K ∨ (j < K ∧ r j % 2 = 1)
theorem isEnd_at {R : Nat → Int} {N : Nat} (hN : N ≤ 240) {M : Mem} (hG : GV R N M) {j : Nat} (hj : j ≤ kk R N) : Ok (f_X2_isEnd j M) (fun v => (v = 0 ∧ ¬ isE (ro R N) (kk R N) j) ∨ (v ≠ 0 ∧ isE (ro R N) (kk R N) j)) := by
  have hk := (kk_is R N).2
  unfold f_X2_isEnd isE
  rw [hG.1]
  refine .ifC (fun h => .ret (Or.inr ⟨by decide, Or.inl (by omega)⟩)) (fun h => .ifF (by omega) (.ifF (by omega) (.ifT (by omega) ?_)))
  rw [(hG.2 j (by omega)).2.2]
  exact .ifC (fun h2 => .ret (Or.inl ⟨rfl, by omega⟩)) (fun h2 => .ret (Or.inr ⟨by decide, Or.inr ⟨by omega, by omega⟩⟩))
def CT (r : Nat → Int) (al ch : Int) (K : Nat) (M : Mem) (j : Nat) : Prop := ∀ j' : Nat, j' < j → isE r K j' → CC r al ch M 0 j'
def CZ (c : Nat) (i : Int) : Prop := MZ c i ∨ c = 70
theorem costOf_L38_ok {R : Nat → Int} {N : Nat} (hN : N ≤ 240) (hR : RB7 R) {al ch : Int} (ha : 0 ≤ al ∧ al ≤ 99) (hc : 0 ≤ ch ∧ ch ≤ 99) (k : Int → Mem → Option (Int × Mem)) {Q : Int × Mem → Prop} {j : Nat} (hj : j ≤ kk R N) (M0 : Mem) (hK : ∀ M' : Mem, CC (ro R N) al ch M' 0 j → (∀ b p, (∀ k : Nat, k ≤ j → ¬ (b = 70 ∧ p = tri j + k)) → M' b p = M0 b p) → Ok (k j M') Q) :
    ∀ (i fuel : Nat) (v3 : Int) (M : Mem), i < fuel → i ≤ j → v3 = (i : Int) - 1 → GV R N M → M 66 13 = al → M 66 15 = ch → CC (ro R N) al ch M i j → CT (ro R N) al ch (kk R N) M j → (∀ b p, (∀ k : Nat, k ≤ j → ¬ (b = 70 ∧ p = tri j + k)) → M b p = M0 b p) → Ok (f_X2_costOf_L38 k fuel j v3 M) Q := by
  have hk := (kk_is R N).2
  intro i
  induction i with
  | zero =>
    intro fuel v3 M hf hi hv hG h13 h15 hcol hct hfr
    obtain ⟨fuel, rfl⟩ : ∃ f, fuel = f + 1 := ⟨fuel - 1, by omega⟩
    rw [f_X2_costOf_L38]
    exact .ifT (by omega) (hK M hcol hfr)
  | succ i ih =>
    intro fuel v3 M hf hi hv hG h13 h15 hcol hct hfr
    obtain ⟨fuel, rfl⟩ : ∃ f, fuel = f + 1 := ⟨fuel - 1, by omega⟩
    have hv2 : v3 = (i : Int) := by omega
    subst hv2
    rw [f_X2_costOf_L38]
    refine .ifF (by omega) (.bind (settle_ok hN hR ha hc (i := i) (j := j) (by omega) hj M hG h13 h15 hcol (fun m m0 m1 m2 k k0 k1 => hct m m1 (Or.inr ⟨by omega, m2⟩) k (by omega) k1)) (fun p hp => .let fun u eu => ?_))
    rw [w32_of (by omega) (by omega)] at eu
    obtain ⟨_, hp⟩ := hp
    have oth : ∀ b q, b ≠ 70 → p.2 b q = M b q := fun b q h => by rw [hp, if_neg (by omega)]
    refine ih fuel u p.2 (by omega) (by omega) (by omega) ⟨by rw [oth _ _ (by omega)]; exact hG.1, fun k hk2 => by rw [oth _ _ (by omega), oth _ _ (by omega), oth _ _ (by omega)]; exact hG.2 k hk2⟩ (by rw [oth _ _ (by omega)]; exact h13) (by rw [oth _ _ (by omega)]; exact h15) (fun k k0 k1 => ?_) (fun j' j0 je k k0 k1 => ?_) (fun b q hb => ?_)
    · rw [hp]
      by_cases e : k = i
      · subst e; rw [if_pos ⟨rfl, rfl⟩]
      · rw [if_neg (by omega)]; exact hcol k (by omega) k1
    · have := tri_lt j0
      have := (tri_ge 0 j').2
      rw [hp, if_neg (by omega)]; exact hct j' j0 je k k0 k1
    · rw [hp, if_neg (hb i (by omega))]; exact hfr b q hb
theorem costOf_L7_ok {R : Nat → Int} {N : Nat} (hN : N ≤ 240) (hR : RB7 R) {al ch : Int} (ha : 0 ≤ al ∧ al ≤ 99) (hc : 0 ≤ ch ∧ ch ≤ 99) (M0 : Mem) : ∀ (s fuel j : Nat) (v2 : Int) (M : Mem), kk R N + 1 - j = s → s < fuel → j ≤ kk R N + 1 → v2 = j → GV R N M → M 66 13 = al → M 66 15 = ch → CT (ro R N) al ch (kk R N) M j → (∀ c i, c ≠ 70 → M c i = M0 c i) →
    Ok (f_X2_costOf_L7 fuel v2 M) (fun p => p.1 = Cs (ro R N) al ch 0 (kk R N) ∧ GV R N p.2 ∧ CT (ro R N) al ch (kk R N) p.2 (kk R N + 1) ∧ ∀ c i, c ≠ 70 → p.2 c i = M0 c i) := by
  have hk := (kk_is R N).2
  intro s
  induction s with
  | zero =>
    intro fuel j v2 M hs hf hj hv hG h13 h15 hct hfr
    obtain ⟨fuel, rfl⟩ : ∃ f, fuel = f + 1 := ⟨fuel - 1, by omega⟩
    have : j = kk R N + 1 := by omega
    subst this
    have b := tri_bd (j := kk R N) (by omega)
    rw [f_X2_costOf_L7, hG.1]
    refine .ifT (by omega) (.bind (.val (spot_at 0 (kk R N) M (by omega) (by omega) (by omega))) (fun q hq => .ifT (by omega) (.ret ⟨?_, hG, hct, hfr⟩)))
    rw [hq]
    exact hct (kk R N) (by omega) (Or.inl rfl) 0 (by omega) (by omega)
  | succ s ih =>
    intro fuel j v2 M hs hf hj hv hG h13 h15 hct hfr
    obtain ⟨fuel, rfl⟩ : ∃ f, fuel = f + 1 := ⟨fuel - 1, by omega⟩
    subst hv
    have b := tri_bd (j := j) (by omega)
    rw [f_X2_costOf_L7, hG.1]
    refine .ifF (by omega) (.bind (isEnd_at hN hG (j := j) (by omega)) (fun q hq => ?_))
    rcases hq with ⟨hq, he⟩ | ⟨hq, he⟩
    · refine .ifT hq (.let fun u eu => ?_)
      rw [w32_of (by omega) (by omega)] at eu
      refine ih fuel (j + 1) u M (by omega) (by omega) (by omega) (by omega) hG h13 h15 (fun j' j0 je => ?_) hfr
      by_cases e : j' = j
      · subst e; exact absurd je he
      · exact hct j' (by omega) je
    · refine .ifF hq (.bind (.val (spot_at j j M (by omega) (by omega) (by omega))) (fun q hq => .ifT (by omega) (.put fun M1 e1 => .let fun u eu => ?_)))
      subst hq
      rw [w32_of (by omega) (by omega)] at eu
      have oth : ∀ b q, b ≠ 70 → M1 b q = M b q := fun b q h => by rw [e1, if_neg (by omega)]
      refine costOf_L38_ok hN hR ha hc _ (j := j) (by omega) M1 (fun M2 hcc hfr2 => ?_) j 4096 u M1 (by omega) (Nat.le_refl _) (by omega) ⟨by rw [oth _ _ (by omega)]; exact hG.1, fun k hk2 => by rw [oth _ _ (by omega), oth _ _ (by omega), oth _ _ (by omega)]; exact hG.2 k hk2⟩ (by rw [oth _ _ (by omega)]; exact h13) (by rw [oth _ _ (by omega)]; exact h15) (fun k k0 k1 => ?_) (fun j' j0 je k k0 k1 => ?_) (fun b p _ => rfl)
      · refine .let fun w ew => ?_
        rw [w32_of (by omega) (by omega)] at ew
        have oth2 : ∀ b q, b ≠ 70 → M2 b q = M b q := fun b q h => (hfr2 b q (fun k _ c => h c.1)).trans (oth b q h)
        refine ih fuel (j + 1) w M2 (by omega) (by omega) (by omega) (by omega) ⟨by rw [oth2 _ _ (by omega)]; exact hG.1, fun k hk2 => by rw [oth2 _ _ (by omega), oth2 _ _ (by omega), oth2 _ _ (by omega)]; exact hG.2 k hk2⟩ (by rw [oth2 _ _ (by omega)]; exact h13) (by rw [oth2 _ _ (by omega)]; exact h15) (fun j' j0 je => ?_) (fun c i h => (oth2 c i h).trans (hfr c i h))
        by_cases e : j' = j
        · subst e; exact hcc
        · intro k k0 k1
          have := tri_lt (j := j') (j' := j) (by omega)
          have := (tri_ge 0 j').2
          rw [hfr2 70 _ (fun k' _ c => by omega), e1, if_neg (by omega)]
          exact hct j' (by omega) je k k0 k1
      · have : k = j := by omega
        subst this
        rw [e1, if_pos ⟨rfl, rfl⟩, Cs_no _ al ch (Nat.le_refl _)]
      · have := tri_lt j0
        have := (tri_ge 0 j').2
        rw [e1, if_neg (by omega)]; exact hct j' j0 je k k0 k1
theorem ccostOf_ok {R : Nat → Int} {N : Nat} (hN : N ≤ 240) (hR : RB7 R) {al ch : Int} (ha : 0 ≤ al ∧ al ≤ 99) (hc : 0 ≤ ch ∧ ch ≤ 99) (o : Nat) (ho : o = 54 ∨ o = 60) (M : Mem) (h5 : M o 5 = N) (h6 : ∀ p : Nat, p < N → M (o + 2) p = R p) (h13 : M 66 13 = al) (h15 : M 66 15 = ch) :
    Ok (f_X2_costOf o M) (fun p => p.1 = Cs (ro R N) al ch 0 (kk R N) ∧ GV R N p.2 ∧ CT (ro R N) al ch (kk R N) p.2 (kk R N + 1) ∧ ∀ c i, ¬ CZ c i → p.2 c i = M c i) := by
  have hk := (kk_is R N).2
  unfold f_X2_costOf
  refine .bind (gather_ok hN hR o ho M h5 h6) (fun M1 ⟨hG, fr⟩ => ?_)
  refine (costOf_L7_ok hN hR ha hc M1 (kk R N + 1) 4096 0 0 M1 (by omega) (by omega) (by omega) rfl hG (by rw [fr 66 13 (by unfold MZ; omega)]; exact h13) (by rw [fr 66 15 (by unfold MZ; omega)]; exact h15) (fun j' j0 => by omega) (fun c i _ => rfl)).mono (fun p h => ⟨h.1, h.2.1, h.2.2.1, fun c i hcz => ?_⟩)
  rw [h.2.2.2 c i (fun e => hcz (Or.inr e)), fr c i (fun e => hcz (Or.inl e))]
