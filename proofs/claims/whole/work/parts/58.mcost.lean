/-! ===== the model prices a repair ===== -/
def MG (R : Nat → Int) (N : Nat) (M : Mem) : Prop := M 84 26 = kk R N ∧ ∀ k : Nat, k < kk R N → M 93 k = plc R N k ∧ M 94 k = ro R N k / 2 ∧ M 95 k = 1 - ro R N k % 2
theorem MA.mg {R : Nat → Int} {N : Nat} {M : Mem} (h : MA R N M) : MG R N M := by
  refine ⟨by rw [(kk_is R N).1]; exact h.1, fun k hk => ?_⟩
  have hk2 : (k : Int) < nb R N := by have := kk_is R N; omega
  obtain ⟨p, a, b, c, d, e⟩ := plc_is hk2
  have q := h.2 p a b
  rw [c] at q
  rw [d, e]
  exact q
theorem MG.same {R : Nat → Int} {N : Nat} {M M' : Mem} (h : MG R N M) (e : ∀ c i, (c = 84 ∧ i = 26) ∨ c = 93 ∨ c = 94 ∨ c = 95 → M' c i = M c i) : MG R N M' :=
  ⟨(e 84 26 (by omega)).trans h.1, fun k hk => by rw [e 93 _ (by omega), e 94 _ (by omega), e 95 _ (by omega)]; exact h.2 k hk⟩
/-- what a bracket alone costs -/
def alp (dr gv : Int) : Int := if gv < dr then gv else dr
theorem alp_bd {dr gv : Int} (ha : 1 ≤ dr ∧ dr ≤ 99 ∧ 1 ≤ gv ∧ gv ≤ 99) : 0 ≤ alp dr gv ∧ alp dr gv ≤ 99 := by unfold alp; split <;> omega
theorem Cs_b2 (r : Nat → Int) {al ch : Int} (ha : 0 ≤ al ∧ al ≤ 99) (hc : 0 ≤ ch) {i j : Nat} (hj : j ≤ 240) : 0 ≤ Cs r al ch i j ∧ Cs r al ch i j ≤ 23760 := by
  have := Cs_bd r ha hc (j - i) i j rfl
  omega
/-- the model's code of a way -/
def wyM (r : Nat → Int) (dr gv ch : Int) (i j : Nat) : Int := if Wy r (alp dr gv) ch i j = -1 then (if gv < dr then -1 else -2) else Wy r (alp dr gv) ch i j
def wyC (dr gv : Int) (x : Int) : Int := if x = -1 then (if gv < dr then -1 else -2) else x
def RT (r : Nat → Int) (dr gv ch : Int) (K : Nat) (M : Mem) (i : Nat) : Prop := ∀ i' j' : Nat, i ≤ i' → i' ≤ j' → j' ≤ K → M 98 (241 * (i' : Int) + j') = Cs r (alp dr gv) ch i' j' ∧ (i' < j' → M 99 (241 * (i' : Int) + j') = wyM r dr gv ch i' j')
theorem RT.same {r : Nat → Int} {dr gv ch : Int} {K : Nat} {M M' : Mem} {i : Nat} (h : RT r dr gv ch K M i) (e : ∀ c q, c = 98 ∨ c = 99 → M' c q = M c q) : RT r dr gv ch K M' i := fun i' j' a b c => by rw [e 98 _ (by omega), e 99 _ (by omega)]; exact h i' j' a b c
theorem idx241 {a b : Nat} (ha : a ≤ 240) (hb : b ≤ 240) : w32 (w32 (w32 (241 * (a : Int)) + 241) + (b : Int)) = 241 * ((a + 1 : Nat) : Int) + (b : Int) := by
  rw [w32_of (i := 241 * (a : Int)) (by omega) (by omega), w32_of (i := 241 * (a : Int) + 241) (by omega) (by omega), w32_of (by omega) (by omega)]
  omega
theorem lays_K_ok {i j : Nat} (hi : i ≤ 240) (hj : j ≤ 240) (x y : Int) (M : Mem) : Ok (f_X10_laysCost_K178 i j x y M) (fun M' => ∀ b q, M' b q = if b = 98 ∧ q = 241 * (i : Int) + j then x else if b = 99 ∧ q = 241 * (i : Int) + j then y else M b q) := by
  unfold f_X10_laysCost_K178
  rw [w32_of (i := 241 * (i : Int)) (by omega) (by omega), w32_of (i := 241 * (i : Int) + (j : Int)) (by omega) (by omega)]
  refine .ifT (by omega) (.put fun M1 e1 => .put fun M2 e2 => .ret fun b q => ?_)
  rw [e2, e1]
  by_cases h : b = 98 ∧ q = 241 * (i : Int) + j
  · rw [if_neg (by omega), if_pos h, if_pos h]
  · rw [if_neg h, if_neg h]
theorem lays_L66_ok {R : Nat → Int} {N : Nat} (hN : N ≤ 240) (hR : RB7 R) {dr gv ch : Int} (ha : 1 ≤ dr ∧ dr ≤ 99 ∧ 1 ≤ gv ∧ gv ≤ 99) (hc : 0 ≤ ch ∧ ch ≤ 99) {i j : Nat} (hij : i < j) (hj : j ≤ kk R N) {M : Mem} (hG : MG R N M) (h13 : M 90 13 = ch) (hrow : RT (ro R N) dr gv ch (kk R N) M (i + 1)) :
    ∀ (s fuel t : Nat) (x y v5 : Int), j - i - 1 - t = s → s < fuel → t ≤ j - i - 1 → v5 = i + 1 + t → x = (inn (Cs (ro R N) (alp dr gv) ch) (ro R N) (alp dr gv) ch i j t).1 → y = wyC dr gv (inn (Cs (ro R N) (alp dr gv) ch) (ro R N) (alp dr gv) ch i j t).2 →
      Ok (f_X10_laysCost_L66 fuel i j x y v5 M) (fun M' => ∀ b q, M' b q = if b = 98 ∧ q = 241 * (i : Int) + j then Cs (ro R N) (alp dr gv) ch i j else if b = 99 ∧ q = 241 * (i : Int) + j then wyM (ro R N) dr gv ch i j else M b q) := by
  have hk := (kk_is R N).2
  have ha2 := alp_bd ha
  have gi := hG.2 i (by omega)
  have ri : ro R N i = -1 ∨ (0 ≤ ro R N i ∧ ro R N i ≤ 7) := hR _
  intro s
  induction s with
  | zero =>
    intro fuel t x y v5 hs hf ht hv hx hy
    obtain ⟨fuel, rfl⟩ : ∃ f, fuel = f + 1 := ⟨fuel - 1, by omega⟩
    have : t = j - i - 1 := by omega
    subst this
    rw [f_X10_laysCost_L66]
    refine .ifT (by omega) ?_
    rw [← Cs_eq (ro R N) (alp dr gv) ch hij] at hx
    have hy2 : y = wyM (ro R N) dr gv ch i j := hy
    rw [hx, hy2]
    exact lays_K_ok (by omega) (by omega) _ _ M
  | succ s ih =>
    intro fuel t x y v5 hs hf ht hv hx hy
    obtain ⟨fuel, rfl⟩ : ∃ f, fuel = f + 1 := ⟨fuel - 1, by omega⟩
    have hv2 : v5 = ((i + 1 + t : Nat) : Int) := by omega
    subst hv2
    have gm := hG.2 (i + 1 + t) (by omega)
    have rm : ro R N (i + 1 + t) = -1 ∨ (0 ≤ ro R N (i + 1 + t) ∧ ro R N (i + 1 + t) ≤ 7) := hR _
    rw [f_X10_laysCost_L66]
    refine .ifF (by omega) (.ifT (by omega) ?_)
    rw [gi.2.2]
    by_cases ho : ro R N i % 2 = 0
    · refine .ifF (by omega) (.ifT (by omega) ?_)
      rw [gm.2.2, gm.2.1, gi.2.1]
      by_cases hm : ro R N (i + 1 + t) % 2 = 1
      · have c1 := (hrow (i + 1) (i + 1 + t) (Nat.le_refl _) (by omega) (by omega)).1
        have c2 := (hrow (i + 1 + t + 1) j (by omega) (by omega) hj).1
        have d1 := Cs_b2 (ro R N) (al := alp dr gv) (ch := ch) ha2 hc.1 (i := i + 1) (j := i + 1 + t) (by omega)
        have d2 := Cs_b2 (ro R N) (al := alp dr gv) (ch := ch) ha2 hc.1 (i := i + 1 + t + 1) (j := j) (by omega)
        rw [idx241 (a := i) (b := i + 1 + t) (by omega) (by omega), idx241 (a := i + 1 + t) (b := j) (by omega) (by omega), c1, c2, h13]
        have e : ∀ z : Int × Int, z = (if prc (ro R N) ch i (i + 1 + t) + Cs (ro R N) (alp dr gv) ch (i + 1) (i + 1 + t) + Cs (ro R N) (alp dr gv) ch (i + 1 + t + 1) j < (inn (Cs (ro R N) (alp dr gv) ch) (ro R N) (alp dr gv) ch i j t).1 then (prc (ro R N) ch i (i + 1 + t) + Cs (ro R N) (alp dr gv) ch (i + 1) (i + 1 + t) + Cs (ro R N) (alp dr gv) ch (i + 1 + t + 1) j, ((i + 1 + t : Nat) : Int)) else inn (Cs (ro R N) (alp dr gv) ch) (ro R N) (alp dr gv) ch i j t) → inn (Cs (ro R N) (alp dr gv) ch) (ro R N) (alp dr gv) ch i j (t + 1) = z := fun z hz => by rw [inn, if_pos ⟨ho, hm⟩, hz]
        have go : ∀ w : Int, w = prc (ro R N) ch i (i + 1 + t) + Cs (ro R N) (alp dr gv) ch (i + 1) (i + 1 + t) + Cs (ro R N) (alp dr gv) ch (i + 1 + t + 1) j → Ok (if x ≤ w then lt1 (w32 (((i + 1 + t : Nat) : Int) + 1)) fun v5_172 => f_X10_laysCost_L66 fuel i j x y v5_172 M else lt1 (w32 (((i + 1 + t : Nat) : Int) + 1)) fun v5_172 => f_X10_laysCost_L66 fuel i j w ((i + 1 + t : Nat) : Int) v5_172 M) (fun M' => ∀ b q, M' b q = if b = 98 ∧ q = 241 * (i : Int) + j then Cs (ro R N) (alp dr gv) ch i j else if b = 99 ∧ q = 241 * (i : Int) + j then wyM (ro R N) dr gv ch i j else M b q) := by
          intro w hw
          refine .ifC (fun hle => .let fun u eu => ?_) (fun hle => .let fun u eu => ?_)
          · rw [w32_of (by omega) (by omega)] at eu
            have k := e _ (by rw [if_neg (by omega)])
            exact ih fuel (t + 1) x y u (by omega) (by omega) (by omega) (by omega) (by rw [k]; exact hx) (by rw [k]; exact hy)
          · rw [w32_of (by omega) (by omega)] at eu
            have k := e _ (by rw [if_pos (by omega)])
            exact ih fuel (t + 1) w _ u (by omega) (by omega) (by omega) (by omega) (by rw [k]; exact hw) (by rw [k]; unfold wyC; rw [if_neg (by show ¬ ((i + 1 + t : Nat) : Int) = -1; omega)])
        refine .ifT (by omega) (.ifC (fun hsame => .ifT (by omega) (.ifT (by omega) (.let fun w ew => ?_))) (fun hsame => .ifT (by omega) (.ifT (by omega) (.let fun w ew => ?_))))
        · have pp : prc (ro R N) ch i (i + 1 + t) = 0 := by unfold prc; rw [if_pos (by omega)]
          rw [w32_of (i := 0 + Cs (ro R N) (alp dr gv) ch (i + 1) (i + 1 + t)) (by omega) (by omega), w32_of (by omega) (by omega)] at ew
          exact go w (by rw [pp]; exact ew)
        · have pp : prc (ro R N) ch i (i + 1 + t) = ch := by unfold prc; rw [if_neg (by omega)]
          rw [w32_of (i := ch + Cs (ro R N) (alp dr gv) ch (i + 1) (i + 1 + t)) (by omega) (by omega), w32_of (by omega) (by omega)] at ew
          exact go w (by rw [pp]; exact ew)
      · refine .ifF (by omega) (.let fun u eu => ?_)
        rw [w32_of (by omega) (by omega)] at eu
        have k : inn (Cs (ro R N) (alp dr gv) ch) (ro R N) (alp dr gv) ch i j (t + 1) = inn (Cs (ro R N) (alp dr gv) ch) (ro R N) (alp dr gv) ch i j t := by rw [inn, if_neg (fun c => hm c.2)]
        exact ih fuel (t + 1) x y u (by omega) (by omega) (by omega) (by omega) (by rw [k]; exact hx) (by rw [k]; exact hy)
    · refine .ifT (by omega) ?_
      have e1 : x = Cs (ro R N) (alp dr gv) ch i j := by rw [hx, Cs_eq (ro R N) (alp dr gv) ch hij, inn_cl _ _ _ _ _ _ ho, inn_cl _ _ _ _ _ _ ho]
      have e2 : y = wyM (ro R N) dr gv ch i j := by
        rw [hy, inn_cl _ _ _ _ _ _ ho]
        unfold wyM Wy
        rw [inn_cl _ _ _ _ _ _ ho]
        rfl
      rw [e1, e2]
      exact lays_K_ok (by omega) (by omega) _ _ M
theorem mcost_at {r : Nat → Int} {dr gv ch : Int} {K : Nat} (hK : K ≤ 240) {M : Mem} {i a b : Nat} (h : RT r dr gv ch K M i) (h0 : i ≤ a) (h1 : a ≤ b) (h2 : b ≤ K) : f_X10_cost a b M = some (Cs r (alp dr gv) ch a b) := by
  unfold f_X10_cost
  rw [w32_of (i := 241 * (a : Int)) (by omega) (by omega), w32_of (i := 241 * (a : Int) + (b : Int)) (by omega) (by omega), if_pos (by omega), (h a b h0 h1 h2).1]
theorem laysCost_ok {R : Nat → Int} {N : Nat} (hN : N ≤ 240) (hR : RB7 R) {dr gv ch : Int} (ha : 1 ≤ dr ∧ dr ≤ 99 ∧ 1 ≤ gv ∧ gv ≤ 99) (hc : 0 ≤ ch ∧ ch ≤ 99) {i j : Nat} (hij : i < j) (hj : j ≤ kk R N) (M : Mem) (hG : MG R N M) (h11 : M 90 11 = dr) (h12 : M 90 12 = gv) (h13 : M 90 13 = ch) (hrow : RT (ro R N) dr gv ch (kk R N) M (i + 1)) :
    Ok (f_X10_laysCost i j M) (fun M' => ∀ b q, M' b q = if b = 98 ∧ q = 241 * (i : Int) + j then Cs (ro R N) (alp dr gv) ch i j else if b = 99 ∧ q = 241 * (i : Int) + j then wyM (ro R N) dr gv ch i j else M b q) := by
  have hk := (kk_is R N).2
  have ha2 := alp_bd ha
  have d1 := Cs_b2 (ro R N) (al := alp dr gv) (ch := ch) ha2 hc.1 (i := i + 1) (j := j) (by omega)
  have cs := mcost_at (K := kk R N) (by omega) hrow (a := i + 1) (b := j) (Nat.le_refl _) (by omega) hj
  unfold f_X10_laysCost
  rw [w32_of (i := (i : Int) + 1) (by omega) (by omega), show (i : Int) + 1 = ((i + 1 : Nat) : Int) by omega, cs]
  simp only [Option.bind_some, lt1_e]
  rw [h11, h12, w32_of (i := dr + Cs (ro R N) (alp dr gv) ch (i + 1) j) (by omega) (by omega), w32_of (i := gv + Cs (ro R N) (alp dr gv) ch (i + 1) j) (by omega) (by omega)]
  have st : ∀ x y, x = alp dr gv + Cs (ro R N) (alp dr gv) ch (i + 1) j → y = (if gv < dr then -1 else -2) → Ok (f_X10_laysCost_L66 4096 i j x y ((i + 1 : Nat) : Int) M) (fun M' => ∀ b q, M' b q = if b = 98 ∧ q = 241 * (i : Int) + j then Cs (ro R N) (alp dr gv) ch i j else if b = 99 ∧ q = 241 * (i : Int) + j then wyM (ro R N) dr gv ch i j else M b q) := fun x y hx hy => lays_L66_ok hN hR ha hc hij hj hG h13 hrow (j - i - 1) 4096 0 x y _ (by omega) (by omega) (by omega) (by omega) hx (by rw [hy]; rfl)
  refine .ifC (fun h => st _ _ (by unfold alp; rw [if_neg (by omega)]) (by rw [if_neg (by omega)])) (fun h => st _ _ (by unfold alp; rw [if_pos (by omega)]) (by rw [if_pos (by omega)]))
def LZ (c : Nat) (_ : Int) : Prop := c = 98 ∨ c = 99
theorem lays_L26_ok {R : Nat → Int} {N : Nat} (hN : N ≤ 240) (hR : RB7 R) {dr gv ch : Int} (ha : 1 ≤ dr ∧ dr ≤ 99 ∧ 1 ≤ gv ∧ gv ≤ 99) (hc : 0 ≤ ch ∧ ch ≤ 99) (k : Int → Mem → Option Mem) {Q : Mem → Prop} {i : Nat} (hi : i ≤ kk R N) (M0 : Mem) (hK : ∀ M' : Mem, RT (ro R N) dr gv ch (kk R N) M' i → (∀ b p, ¬ LZ b p → M' b p = M0 b p) → Ok (k i M') Q) :
    ∀ (s fuel j : Nat) (v2 : Int) (M : Mem), kk R N + 1 - j = s → s < fuel → i < j → j ≤ kk R N + 1 → v2 = j → MG R N M → M 90 11 = dr → M 90 12 = gv → M 90 13 = ch → RT (ro R N) dr gv ch (kk R N) M (i + 1) → (∀ j' : Nat, i ≤ j' → j' < j → M 98 (241 * (i : Int) + j') = Cs (ro R N) (alp dr gv) ch i j' ∧ (i < j' → M 99 (241 * (i : Int) + j') = wyM (ro R N) dr gv ch i j')) → (∀ b p, ¬ LZ b p → M b p = M0 b p) → Ok (f_X10_laysCosts_L26 k fuel i v2 M) Q := by
  have hk := (kk_is R N).2
  intro s
  induction s with
  | zero =>
    intro fuel j v2 M hs hf hij hj hv hG h11 h12 h13 hrow hr hfr
    obtain ⟨fuel, rfl⟩ : ∃ f, fuel = f + 1 := ⟨fuel - 1, by omega⟩
    rw [f_X10_laysCosts_L26, hG.1]
    refine .ifT (by omega) (hK M (fun i' j' a b c => ?_) hfr)
    by_cases e : i' = i
    · subst e; exact hr j' b (by omega)
    · exact hrow i' j' (by omega) b c
  | succ s ih =>
    intro fuel j v2 M hs hf hij hj hv hG h11 h12 h13 hrow hr hfr
    obtain ⟨fuel, rfl⟩ : ∃ f, fuel = f + 1 := ⟨fuel - 1, by omega⟩
    subst hv
    rw [f_X10_laysCosts_L26, hG.1]
    refine .ifF (by omega) (.bind (laysCost_ok hN hR ha hc (i := i) (j := j) hij (by omega) M hG h11 h12 h13 hrow) (fun M1 e1 => .let fun u eu => ?_))
    rw [w32_of (by omega) (by omega)] at eu
    have oth : ∀ b q, ¬ LZ b q → M1 b q = M b q := fun b q h => by unfold LZ at h; rw [e1, if_neg (by omega), if_neg (by omega)]
    refine ih fuel (j + 1) u M1 (by omega) (by omega) (by omega) (by omega) (by omega) (hG.same (fun c i h => oth c i (by unfold LZ; omega))) (by rw [oth 90 11 (by unfold LZ; omega)]; exact h11) (by rw [oth 90 12 (by unfold LZ; omega)]; exact h12) (by rw [oth 90 13 (by unfold LZ; omega)]; exact h13) (fun i' j' a b c => ?_) (fun j' j0 j1 => ?_) (fun b p h => (oth b p h).trans (hfr b p h))
    · rw [e1, if_neg (by omega), if_neg (by omega), e1, if_neg (by omega), if_neg (by omega)]
      exact hrow i' j' a b c
    · by_cases e : j' = j
      · subst e
        exact ⟨by rw [e1, if_pos ⟨rfl, rfl⟩], fun _ => by rw [e1, if_neg (by omega), if_pos ⟨rfl, rfl⟩]⟩
      · rw [e1, if_neg (by omega), if_neg (by omega), e1, if_neg (by omega), if_neg (by omega)]
        exact hr j' j0 (by omega)
theorem lays_L5_ok {R : Nat → Int} {N : Nat} (hN : N ≤ 240) (hR : RB7 R) {dr gv ch : Int} (ha : 1 ≤ dr ∧ dr ≤ 99 ∧ 1 ≤ gv ∧ gv ≤ 99) (hc : 0 ≤ ch ∧ ch ≤ 99) (M0 : Mem) : ∀ (i fuel : Nat) (v1 : Int) (M : Mem), i < fuel → i ≤ kk R N + 1 → v1 = (i : Int) - 1 → MG R N M → M 90 11 = dr → M 90 12 = gv → M 90 13 = ch → RT (ro R N) dr gv ch (kk R N) M i → (∀ b p, ¬ LZ b p → M b p = M0 b p) →
    Ok (f_X10_laysCosts_L5 fuel v1 M) (fun M' => RT (ro R N) dr gv ch (kk R N) M' 0 ∧ ∀ b p, ¬ LZ b p → M' b p = M0 b p) := by
  have hk := (kk_is R N).2
  intro i
  induction i with
  | zero =>
    intro fuel v1 M hf hi hv hG h11 h12 h13 hrow hfr
    obtain ⟨fuel, rfl⟩ : ∃ f, fuel = f + 1 := ⟨fuel - 1, by omega⟩
    rw [f_X10_laysCosts_L5]
    exact .ifT (by omega) (.ret ⟨hrow, hfr⟩)
  | succ i ih =>
    intro fuel v1 M hf hi hv hG h11 h12 h13 hrow hfr
    obtain ⟨fuel, rfl⟩ : ∃ f, fuel = f + 1 := ⟨fuel - 1, by omega⟩
    have hv2 : v1 = (i : Int) := by omega
    subst hv2
    rw [f_X10_laysCosts_L5, w32_of (i := 241 * (i : Int)) (by omega) (by omega), w32_of (i := 241 * (i : Int) + (i : Int)) (by omega) (by omega)]
    refine .ifF (by omega) (.ifT (by omega) (.put fun M1 e1 => .let fun u eu => ?_))
    rw [w32_of (by omega) (by omega)] at eu
    have oth : ∀ b q, ¬ LZ b q → M1 b q = M b q := fun b q h => by unfold LZ at h; rw [e1, if_neg (by omega)]
    have hG1 : MG R N M1 := hG.same (fun c i h => oth c i (by unfold LZ; omega))
    have a11 : M1 90 11 = dr := by rw [oth 90 11 (by unfold LZ; omega)]; exact h11
    have a12 : M1 90 12 = gv := by rw [oth 90 12 (by unfold LZ; omega)]; exact h12
    have a13 : M1 90 13 = ch := by rw [oth 90 13 (by unfold LZ; omega)]; exact h13
    refine lays_L26_ok hN hR ha hc _ (i := i) (by omega) M0 (fun M2 h2 f2 => ?_) (kk R N + 1 - (i + 1)) 4096 (i + 1) u M1 rfl (by omega) (by omega) (by omega) (by omega) hG1 a11 a12 a13 (fun i' j' a b c => ?_) (fun j' j0 j1 => ?_) (fun b p h => (oth b p h).trans (hfr b p h))
    · refine .let fun w ew => ?_
      rw [w32_of (by omega) (by omega)] at ew
      have oth2 : ∀ b q, ¬ LZ b q → M2 b q = M b q := fun b q h => (f2 b q h).trans (hfr b q h).symm
      exact ih fuel w M2 (by omega) (by omega) (by omega) (hG.same (fun c i h => oth2 c i (by unfold LZ; omega))) (by rw [oth2 90 11 (by unfold LZ; omega)]; exact h11) (by rw [oth2 90 12 (by unfold LZ; omega)]; exact h12) (by rw [oth2 90 13 (by unfold LZ; omega)]; exact h13) h2 f2
    · rw [e1, if_neg (by omega), e1, if_neg (by omega)]
      exact hrow i' j' a b c
    · have : j' = i := by omega
      subst this
      exact ⟨by rw [e1, if_pos ⟨rfl, rfl⟩, Cs_no _ _ _ (Nat.le_refl _)], fun h => by omega⟩
theorem laysCosts_ok {R : Nat → Int} {N : Nat} (hN : N ≤ 240) (hR : RB7 R) {dr gv ch : Int} (ha : 1 ≤ dr ∧ dr ≤ 99 ∧ 1 ≤ gv ∧ gv ≤ 99) (hc : 0 ≤ ch ∧ ch ≤ 99) (M : Mem) (hG : MG R N M) (h11 : M 90 11 = dr) (h12 : M 90 12 = gv) (h13 : M 90 13 = ch) : Ok (f_X10_laysCosts M) (fun M' => RT (ro R N) dr gv ch (kk R N) M' 0 ∧ ∀ b p, ¬ LZ b p → M' b p = M b p) := by
  have hk := (kk_is R N).2
  unfold f_X10_laysCosts
  refine .let fun v ev => ?_
  exact lays_L5_ok hN hR ha hc M (kk R N + 1) 4096 v M (by omega) (Nat.le_refl _) (by rw [ev, hG.1]; omega) hG h11 h12 h13 (fun i' j' a b c => by omega) (fun b p _ => rfl)
def FZ (c : Nat) (i : Int) : Prop := (c = 84 ∧ i = 26) ∨ (92 ≤ c ∧ c ≤ 95)
theorem FdI.ma {ρ b : Int → Int} {sk : Int} {M : Mem} {n : Nat} (h : FdI ρ b sk M n) : MA (rl ρ b sk) n M := by
  obtain ⟨h1, h2, h3⟩ := h
  refine ⟨by rw [h1, nbr_nb], fun p hp hr => ?_⟩
  have := h3 p hp hr
  rw [nbr_nb] at this
  exact this
/-- the model's cost of a text without a byte (-1: with all) -/
theorem mcostOf_ok {ρ : Int → Int} (sk : Int) {P : Pg} (hW : Wf P) (hρ : ∀ c, ρ c = -1 ∨ (0 ≤ ρ c ∧ ρ c ≤ 10)) (h10 : ρ 10 = -1) (M : Mem) (hP : PgM M 90 0 P) (hS : SgM ρ M) :
    Ok (f_X10_costOf sk M) (fun p => p.1 = Cs (ro (rl ρ P.b sk) (Nn P)) (alp P.drop P.give) P.chg 0 (kk (rl ρ P.b sk) (Nn P)) ∧ MA (rl ρ P.b sk) (Nn P) p.2 ∧ RT (ro (rl ρ P.b sk) (Nn P)) P.drop P.give P.chg (kk (rl ρ P.b sk) (Nn P)) p.2 0 ∧ ∀ c i, ¬ (FZ c i ∨ LZ c i) → p.2 c i = M c i) := by
  have hN := Nn_is hW
  have hR : RB7 (rl ρ P.b sk) := rl_bd hρ P.b sk
  obtain ⟨w1, w2, w3, w4, w5, w6, w7, w8⟩ := hW.2.1
  have hk := (kk_is (rl ρ P.b sk) (Nn P))
  unfold f_X10_costOf
  refine .bind (finds_ok sk hW h10 M hP hS) (fun M1 ⟨hF, fr1⟩ => ?_)
  have hA : MA (rl ρ P.b sk) (Nn P) M1 := hF.ma
  have pr : ∀ i, M1 90 i = M 90 i := fun i => fr1 90 i (by omega) (by omega) (by omega) (by omega) (by omega)
  refine .bind (laysCosts_ok hN.2 hR (dr := P.drop) (gv := P.give) (ch := P.chg) (by omega) (by omega) M1 hA.mg (by rw [pr]; exact hP.2.2.2.1) (by rw [pr]; exact hP.2.2.2.2.1) (by rw [pr]; exact hP.2.2.2.2.2.1)) (fun M2 ⟨hT, fr2⟩ => ?_)
  have hA2 : MA (rl ρ P.b sk) (Nn P) M2 := hA.same (fun c i h => fr2 c i (by unfold LZ; omega))
  rw [show M2 84 26 = ((kk (rl ρ P.b sk) (Nn P) : Nat) : Int) by rw [hk.1]; exact hA2.1]
  refine .bind (.val (mcost_at (K := kk (rl ρ P.b sk) (Nn P)) (by omega) hT (a := 0) (b := kk (rl ρ P.b sk) (Nn P)) (by omega) (by omega) (Nat.le_refl _))) (fun q hq => .ret ⟨hq, hA2, hT, fun c i h => ?_⟩)
  show M2 c i = M c i
  rw [fr2 c i (fun e => h (Or.inr e)), fr1 c i (fun e => h (Or.inl (Or.inl e))) (fun e => h (Or.inl (Or.inr (by omega)))) (fun e => h (Or.inl (Or.inr (by omega)))) (fun e => h (Or.inl (Or.inr (by omega)))) (fun e => h (Or.inl (Or.inr (by omega))))]
