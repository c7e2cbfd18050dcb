/-! ===== the repair is done ===== -/
/-- how much longer the text gets by the first n brackets' steps -/
def gsf (ρ : Int → Int) (P : Pg) (k : Nat) : Int := if Da ρ P k = 0 then -1 else if Da ρ P k = 1 then 1 else 0
def gsm (ρ : Int → Int) (P : Pg) (n : Nat) : Int := sm (gsf ρ P) n
/-- what a step does to a page -/
def stpP (G : Sn) (P : Pg) (k : Nat) (Q : Pg) : Pg :=
  if Da G.1 P k = 0 then takeP Q (plI (Rof G.1 P) (Nn P) k) (plI (Rof G.1 P) (Nn P) k + 1)
  else if Da G.1 P k = 1 then (if Rr G.1 P k % 2 = 0 then putN Q (plI (Rof G.1 P) (Nn P) k + 1) 1 (fun _ => G.2.2 (Rr G.1 P k + 1).toNat) else putN Q (plI (Rof G.1 P) (Nn P) k) 1 (fun _ => G.2.2 (Rr G.1 P k - 1).toNat))
  else if Da G.1 P k = 2 then setB Q (plI (Rof G.1 P) (Nn P) k) (G.2.2 (Cd G.1 P k).toNat) else Q
def rpS (G : Sn) (P : Pg) : Nat → Pg → Pg
  | 0, Q => Q
  | k + 1, Q => rpS G P k (stpP G P k Q)
theorem rr_kind {G : Sn} (hG : WG G) (P : Pg) {k : Nat} (hk : k < Kk G.1 P) : 0 ≤ Rr G.1 P k ∧ Rr G.1 P k < 2 * G.2.1 := by
  have hk2 : (k : Int) < nb (Rof G.1 P) (Nn P) := by have := kk_is (Rof G.1 P) (Nn P); have : k < kk (Rof G.1 P) (Nn P) := hk; omega
  obtain ⟨p, a, b, c, d, e⟩ := plc_is hk2
  have er : Rr G.1 P k = Rof G.1 P p := e
  have g4 := hG.2.2.2.1
  have h' : rl G.1 P.b (-1) p ≠ -1 := b
  have hb : Rof G.1 P p = rl G.1 P.b (-1) p := rfl
  rw [er, hb]
  unfold rl rolS at h' ⊢
  rw [if_neg (by omega)] at h' ⊢
  by_cases hc : (SC G.1 P.b (-1) p).1 = 0 ∧ G.1 (P.b p) < 8
  · rw [if_pos hc] at h' ⊢
    have := hG.1 (P.b p)
    omega
  · rw [if_neg hc] at h'; exact absurd rfl h'
theorem plI_up {G : Sn} (P : Pg) {k' k : Nat} (h : k' < k) (hk : k < Kk G.1 P) : plI (Rof G.1 P) (Nn P) k' < plI (Rof G.1 P) (Nn P) k := by
  have c1 : (k : Int) < nb (Rof G.1 P) (Nn P) := by have := kk_is (Rof G.1 P) (Nn P); have : k < kk (Rof G.1 P) (Nn P) := hk; omega
  obtain ⟨p, a, b, c, d, e⟩ := plc_is c1
  obtain ⟨p', a', b', c', d', e'⟩ := plc_is (R := Rof G.1 P) (N := Nn P) (k := k') (by omega)
  unfold plI
  rw [d, d']
  by_cases x : p' < p
  · omega
  · have := nb_mono (Rof G.1 P) (p := p) (n := p') (by omega)
    omega
theorem plI_len {G : Sn} {P : Pg} (hW : Wf P) {k : Nat} (hk : k < Kk G.1 P) : 0 ≤ plI (Rof G.1 P) (Nn P) k ∧ plI (Rof G.1 P) (Nn P) k < P.len := by
  have c1 : (k : Int) < nb (Rof G.1 P) (Nn P) := by have := kk_is (Rof G.1 P) (Nn P); have : k < kk (Rof G.1 P) (Nn P) := hk; omega
  obtain ⟨p, a, b, c, d, e⟩ := plc_is c1
  have := Nn_is hW
  unfold plI
  rw [d]
  omega
theorem da_act {G : Sn} {P : Pg} (k : Nat) : (Da G.1 P k = -1 ∨ Da G.1 P k = 2 ∨ (Cd G.1 P k = -1 ∧ Da G.1 P k = act P.drop P.give)) ∧ (act P.drop P.give = 0 ∨ act P.drop P.give = 1) := by
  refine ⟨?_, by unfold act; split <;> omega⟩
  unfold Da daC
  by_cases h1 : Cd G.1 P k = -1
  · rw [if_pos h1]; exact Or.inr (Or.inr ⟨h1, rfl⟩)
  · rw [if_neg h1]
    by_cases h2 : Cd G.1 P k = -2
    · rw [if_pos h2]; exact Or.inl rfl
    · rw [if_neg h2]
      by_cases h3 : Cd G.1 P k = Rr G.1 P k
      · rw [if_pos h3]; exact Or.inl rfl
      · rw [if_neg h3]; exact Or.inr (Or.inl rfl)
theorem gsm_ge {G : Sn} {P : Pg} (h : act P.drop P.give = 1) : ∀ n : Nat, 0 ≤ gsm G.1 P n := by
  intro n
  induction n with
  | zero => exact Int.le_refl 0
  | succ n ih =>
    have d := (da_act (G := G) (P := P) n).1
    have e : gsm G.1 P (n + 1) = gsm G.1 P n + gsf G.1 P n := rfl
    have : 0 ≤ gsf G.1 P n := by
      unfold gsf
      rw [if_neg (by omega)]
      split <;> omega
    omega
theorem gsm_bd (ρ : Int → Int) (P : Pg) : ∀ n : Nat, -(n : Int) ≤ gsm ρ P n ∧ gsm ρ P n ≤ n := by
  intro n
  induction n with
  | zero => exact ⟨Int.le_refl 0, Int.le_refl 0⟩
  | succ n ih =>
    have e : gsm ρ P (n + 1) = gsm ρ P n + gsf ρ P n := rfl
    have : -1 ≤ gsf ρ P n ∧ gsf ρ P n ≤ 1 := by unfold gsf; split <;> (try split) <;> omega
    omega
/-- a page on which the steps of the first k brackets can be done -/
def RC (G : Sn) (P : Pg) (k : Nat) (Q : Pg) : Prop := Wf Q ∧ (∀ k' : Nat, k' < k → plI (Rof G.1 P) (Nn P) k' < Q.len) ∧ Q.len + gsm G.1 P k ≤ 240
theorem cd_two {G : Sn} (hG : WG G) {P : Pg} {k : Nat} (hk : k < Kk G.1 P) (h : Da G.1 P k = 2) : 0 ≤ Cd G.1 P k ∧ Cd G.1 P k < 2 * G.2.1 ∧ Cd G.1 P k % 2 = 1 ∧ Rr G.1 P k % 2 = 1 := by
  have d := da_act (G := G) (P := P) k
  rcases cd_rng hG P hk with hc | ⟨hc, _⟩ | ⟨i', i1, i2, hc, i3⟩
  · have h1 : Da G.1 P k = act P.drop P.give := by unfold Da daC; rw [if_pos hc]
    omega
  · have h1 : Da G.1 P k = -1 := by unfold Da daC; rw [if_neg (by omega), if_pos hc]
    omega
  · have := rr_kind hG P i1
    omega
theorem cd_alone {G : Sn} (hG : WG G) {P : Pg} {k : Nat} (hk : k < Kk G.1 P) (h : Da G.1 P k = 0 ∨ Da G.1 P k = 1) : Cd G.1 P k = -1 ∧ Da G.1 P k = act P.drop P.give := by
  have d := (da_act (G := G) (P := P) k).1
  omega
theorem RC_step {G : Sn} (hG : WG G) {P : Pg} (hW : Wf P) {k : Nat} (hk : k < Kk G.1 P) {Q : Pg} (h : RC G P (k + 1) Q) : RC G P k (stpP G P k Q) := by
  obtain ⟨h1, h2, h3⟩ := h
  have pl := plI_len hW hk
  have pq := h2 k (by omega)
  have rk := rr_kind hG P hk
  have e : gsm G.1 P (k + 1) = gsm G.1 P k + gsf G.1 P k := rfl
  have up : ∀ k' : Nat, k' < k → plI (Rof G.1 P) (Nn P) k' < plI (Rof G.1 P) (Nn P) k := fun k' hk' => plI_up P hk' hk
  unfold stpP
  by_cases d0 : Da G.1 P k = 0
  · have g : gsf G.1 P k = -1 := by unfold gsf; rw [if_pos d0]
    rw [if_pos d0]
    refine ⟨takeP_wf h1 pl.1 (by omega) (by omega), fun k' hk' => ?_, ?_⟩
    · have := up k' hk'
      show _ < Q.len - (plI (Rof G.1 P) (Nn P) k + 1 - plI (Rof G.1 P) (Nn P) k)
      omega
    · show Q.len - (plI (Rof G.1 P) (Nn P) k + 1 - plI (Rof G.1 P) (Nn P) k) + gsm G.1 P k ≤ 240
      omega
  · rw [if_neg d0]
    by_cases d1 : Da G.1 P k = 1
    · have g : gsf G.1 P k = 1 := by unfold gsf; rw [if_neg d0, if_pos d1]
      have ga := gsm_ge (G := G) (P := P) (by have := cd_alone hG hk (Or.inr d1); omega) k
      rw [if_pos d1]
      by_cases ev : Rr G.1 P k % 2 = 0
      · rw [if_pos ev]
        refine ⟨put1_wf h1 (by omega) (by omega) (by omega) (hG.2.2.2.2 _ (by omega)), fun k' hk' => ?_, ?_⟩
        · have := up k' hk'
          show _ < Q.len + 1
          omega
        · show Q.len + 1 + gsm G.1 P k ≤ 240
          omega
      · rw [if_neg ev]
        refine ⟨put1_wf h1 (by omega) (by omega) (by omega) (hG.2.2.2.2 _ (by omega)), fun k' hk' => ?_, ?_⟩
        · have := up k' hk'
          show _ < Q.len + 1
          omega
        · show Q.len + 1 + gsm G.1 P k ≤ 240
          omega
    · have g : gsf G.1 P k = 0 := by unfold gsf; rw [if_neg d0, if_neg d1]
      rw [if_neg d1]
      by_cases d2 : Da G.1 P k = 2
      · have c2 := cd_two hG hk d2
        rw [if_pos d2]
        exact ⟨setB_wf h1 (hG.2.2.2.2 _ (by omega)), fun k' hk' => h2 k' (by omega), by show Q.len + gsm G.1 P k ≤ 240; omega⟩
      · rw [if_neg d2]
        exact ⟨h1, fun k' hk' => h2 k' (by omega), by omega⟩
theorem RC_all {G : Sn} (hG : WG G) {P : Pg} (hW : Wf P) : ∀ (k : Nat) (Q : Pg), k ≤ Kk G.1 P → RC G P k Q → Wf (rpS G P k Q) := by
  intro k
  induction k with
  | zero => intro Q _ h; exact h.1
  | succ k ih => intro Q hk h; exact ih _ (by omega) (RC_step hG hW (by omega) h)
theorem CSg.fr3 {G : Sn} {M M' : Mem} (h : CSg G M) (fr : Fr3 M M' 14) : CSg G M' := h.same (fun c i hc => fr c (by omega) (by omega) (by omega) i)
/-- one step, in the class -/
theorem mendBracket_ok {G : Sn} (hG : WG G) {P : Pg} (hW : Wf P) {k : Nat} (hk : k < Kk G.1 P) {Q : Pg} (hR : RC G P (k + 1) Q) (hd : Da G.1 P k ≠ -1) (M : Mem) (hP : PgC M 14 Q) (hS : CSg G M) : Ok (f_X9_mendBracket (Da G.1 P k) (plI (Rof G.1 P) (Nn P) k) (srC (Rr G.1 P) (Cd G.1 P) k) M) (fun M' => PgC M' 14 (stpP G P k Q) ∧ Fr3 M M' 14) := by
  obtain ⟨h1, h2, h3⟩ := hR
  have pl := plI_len hW hk
  have pq := h2 k (by omega)
  have rk := rr_kind hG P hk
  have g4 := hG.2.2.2.1
  have l1 := h1.l1
  have e : gsm G.1 P (k + 1) = gsm G.1 P k + gsf G.1 P k := rfl
  unfold f_X9_mendBracket stpP
  by_cases d0 : Da G.1 P k = 0
  · rw [if_pos d0, if_pos d0, w32_of (by omega) (by omega)]
    exact .bind (takeOut_ok 14 _ _ M hP h1 pl.1 (by omega) (by omega)) (fun M1 h => .ret h)
  · rw [if_neg d0, if_neg d0]
    by_cases d1 : Da G.1 P k = 1
    · have g : gsf G.1 P k = 1 := by unfold gsf; rw [if_neg d0, if_pos d1]
      have ca := cd_alone hG hk (Or.inr d1)
      have ga := gsm_ge (G := G) (P := P) (by omega) k
      have sr : srC (Rr G.1 P) (Cd G.1 P) k = Rr G.1 P k := by unfold srC; rw [if_pos ca.1]
      rw [sr, if_neg (by omega), if_pos d1, irm2 (by omega) (by omega), idv2 (by omega) (by omega)]
      by_cases ev : Rr G.1 P k % 2 = 0
      · rw [if_pos ev, if_pos ev, w32_of (by omega) (by omega)]
        refine .bind (.val (closingOf_at hG hS (k := Rr G.1 P k / 2) (by omega))) (fun x hx => ?_)
        rw [show 2 * (Rr G.1 P k / 2) + 1 = Rr G.1 P k + 1 by omega] at hx
        subst hx
        exact .bind (putByte_ok 14 _ _ M hP h1 (by omega) (by omega) (by omega)) (fun M1 h => .ret h)
      · rw [if_neg ev, if_neg ev]
        refine .bind (.val (openingOfS_at hG hS (k := Rr G.1 P k / 2) (by omega))) (fun x hx => ?_)
        rw [show 2 * (Rr G.1 P k / 2) = Rr G.1 P k - 1 by omega] at hx
        subst hx
        exact .bind (putByte_ok 14 _ _ M hP h1 (by omega) (by omega) (by omega)) (fun M1 h => .ret h)
    · rw [if_neg d1]
      have d2 : Da G.1 P k = 2 := by have := da_act (G := G) (P := P) k; omega
      have c2 := cd_two hG hk d2
      have sr : srC (Rr G.1 P) (Cd G.1 P) k = Cd G.1 P k := by unfold srC; rw [if_neg (by omega)]
      rw [if_pos d2, if_pos d2, sr, idv2 (by omega) (by omega)]
      refine .bind (.val (closingOf_at hG hS (k := Cd G.1 P k / 2) (by omega))) (fun x hx => ?_)
      rw [show 2 * (Cd G.1 P k / 2) + 1 = Cd G.1 P k by omega] at hx
      subst hx
      exact .bind (setByte_pg 14 _ _ M hP h1 pl.1 pq) (fun M1 h => .ret h)
theorem mt_L {G : Sn} (hG : WG G) {P : Pg} (hW : Wf P) : ∀ (k fuel : Nat) (v : Int) (M : Mem) (Q : Pg), k ≤ Kk G.1 P → k < fuel → v = Cnt G.1 P k - 1 → RC G P k Q → PgC M 14 Q → CSg G M → MdV G.1 P M → Ok (f_X9_mendText_L29 fuel v M) (fun r => r.1 = 1 ∧ PgC r.2 14 (rpS G P k Q) ∧ r.2 0 16 = 1 ∧ r.2 0 17 = 1 ∧ ∀ c i, c ≠ 14 → c ≠ 15 → c ≠ 16 → ¬ (c = 0 ∧ (i = 16 ∨ i = 17)) → r.2 c i = M c i) := by
  have hK := Kk_le G.1 hW
  intro k
  induction k with
  | zero =>
    intro fuel v M Q hk hf hv hR hP hS hV
    obtain ⟨fuel, rfl⟩ : ∃ f, fuel = f + 1 := ⟨fuel - 1, by omega⟩
    have : Cnt G.1 P 0 = 0 := rfl
    rw [f_X9_mendText_L29]
    refine .ifT (by omega) (.bind (touch_ok M) (fun M1 ⟨t1, t2, t3⟩ => .ret ⟨rfl, hP.same (fun i => t3 _ i (by omega)) (fun i => t3 _ i (by omega)) (fun i => t3 _ i (by omega)), t1, t2, fun c i _ _ _ h => t3 c i h⟩))
  | succ k ih =>
    intro fuel v M Q hk hf hv hR hP hS hV
    by_cases hd : Da G.1 P k = -1
    · have ec : Cnt G.1 P (k + 1) = Cnt G.1 P k := cnt_s0 hd
      have es : stpP G P k Q = Q := by unfold stpP; rw [if_neg (by omega), if_neg (by omega), if_neg (by omega)]
      have := ih fuel v M (stpP G P k Q) (by omega) (by omega) (by omega) (RC_step hG hW (by omega) hR) (by rw [es]; exact hP) hS hV
      exact this
    · obtain ⟨fuel, rfl⟩ : ∃ f, fuel = f + 1 := ⟨fuel - 1, by omega⟩
      have ec : Cnt G.1 P (k + 1) = Cnt G.1 P k + 1 := cnt_s1 hd
      have cb : 0 ≤ Cnt G.1 P k ∧ Cnt G.1 P k ≤ k := cnt_bd _ _ _ _
      have mo : Cnt G.1 P (k + 1) ≤ Cnt G.1 P (Kk G.1 P) := cnt_mono _ _ _ (by omega)
      have e11 : M 66 11 = Cnt G.1 P (Kk G.1 P) := hV.2.1.1
      have st := hV.2.1.2 k (by omega) hd
      have hv2 : v = Cnt G.1 P k := by omega
      subst hv2
      rw [f_X9_mendText_L29]
      refine .ifF (by omega) (.bind (.val (actOf_at (k := Cnt G.1 P k) (by omega) (by omega))) (fun x hx => .bind (.val (placeOf_at (k := Cnt G.1 P k) (by omega) (by omega))) (fun y hy => .bind (.val (roleOfS_at (k := Cnt G.1 P k) (by omega) (by omega))) (fun z hz => ?_))))
      have hx2 : x = Da G.1 P k := hx.trans st.1
      have hy2 : y = plI (Rof G.1 P) (Nn P) k := hy.trans st.2.1
      have hz2 : z = srC (Rr G.1 P) (Cd G.1 P) k := hz.trans st.2.2
      subst hx2; subst hy2; subst hz2
      refine .bind (mendBracket_ok hG hW (by omega) hR hd M hP hS) (fun M1 ⟨a1, a2⟩ => .let fun u eu => ?_)
      rw [w32_of (by omega) (by omega)] at eu
      refine (ih fuel u M1 (stpP G P k Q) (by omega) (by omega) (by omega) (RC_step hG hW (by omega) hR) a1 (hS.fr3 a2) (hV.same (fun c i hc => a2 c (by omega) (by omega) (by omega) i))).mono (fun r ⟨r1, r2, r3, r4, r5⟩ => ⟨r1, r2, r3, r4, fun c i c1 c2 c3 c4 => (r5 c i c1 c2 c3 c4).trans (a2 c c1 c2 c3 i)⟩)
theorem growth_L {G : Sn} {P : Pg} (hW : Wf P) {M : Mem} (hV : MdV G.1 P M) : ∀ (r fuel k : Nat) (a v : Int), Kk G.1 P - k = r → r < fuel → k ≤ Kk G.1 P → v = Cnt G.1 P k → a = gsm G.1 P k → f_X2_growth_L4 fuel a v M = some (gsm G.1 P (Kk G.1 P)) := by
  have hK := Kk_le G.1 hW
  have e11 : M 66 11 = Cnt G.1 P (Kk G.1 P) := hV.2.1.1
  intro r
  induction r with
  | zero =>
    intro fuel k a v hr hf hk hv ha
    obtain ⟨fuel, rfl⟩ : ∃ f, fuel = f + 1 := ⟨fuel - 1, by omega⟩
    have : k = Kk G.1 P := by omega
    subst this
    rw [f_X2_growth_L4, if_pos (by omega), ha]
  | succ r ih =>
    intro fuel k a v hr hf hk hv ha
    have e : gsm G.1 P (k + 1) = gsm G.1 P k + gsf G.1 P k := rfl
    by_cases hd : Da G.1 P k = -1
    · have ec : Cnt G.1 P (k + 1) = Cnt G.1 P k := cnt_s0 hd
      have g : gsf G.1 P k = 0 := by unfold gsf; rw [if_neg (by omega), if_neg (by omega)]
      exact ih fuel (k + 1) a v (by omega) (by omega) (by omega) (by omega) (by omega)
    · obtain ⟨fuel, rfl⟩ : ∃ f, fuel = f + 1 := ⟨fuel - 1, by omega⟩
      have ec : Cnt G.1 P (k + 1) = Cnt G.1 P k + 1 := cnt_s1 hd
      have cb : 0 ≤ Cnt G.1 P k ∧ Cnt G.1 P k ≤ k := cnt_bd _ _ _ _
      have mo : Cnt G.1 P (k + 1) ≤ Cnt G.1 P (Kk G.1 P) := cnt_mono _ _ _ (by omega)
      have gb := gsm_bd G.1 P k
      have st := (hV.2.1.2 k (by omega) hd).1
      have st' : M 74 (Cnt G.1 P k) = Da G.1 P k := st
      subst hv
      rw [f_X2_growth_L4, if_neg (by omega), actOf_at (by omega) (by omega), st']
      simp only [Option.bind_some, lt1_e]
      rw [w32_of (i := a + 1) (by omega) (by omega), w32_of (i := Cnt G.1 P k + 1) (by omega) (by omega), w32_of (i := a + -1) (by omega) (by omega)]
      by_cases d1 : Da G.1 P k = 1
      · have g : gsf G.1 P k = 1 := by unfold gsf; rw [if_neg (by omega), if_pos d1]
        rw [if_pos d1]
        exact ih fuel (k + 1) _ _ (by omega) (by omega) (by omega) (by omega) (by omega)
      · rw [if_neg d1]
        by_cases d0 : Da G.1 P k = 0
        · have g : gsf G.1 P k = -1 := by unfold gsf; rw [if_pos d0]
          rw [if_pos d0]
          exact ih fuel (k + 1) _ _ (by omega) (by omega) (by omega) (by omega) (by omega)
        · have g : gsf G.1 P k = 0 := by unfold gsf; rw [if_neg d0, if_neg d1]
          rw [if_neg d0]
          exact ih fuel (k + 1) _ _ (by omega) (by omega) (by omega) (by omega) (by omega)
theorem RC_start {G : Sn} {P : Pg} (hW : Wf P) (hl : P.len + gsm G.1 P (Kk G.1 P) ≤ 240) : RC G P (Kk G.1 P) P := ⟨hW, fun k' hk' => (plI_len hW hk').2, hl⟩
theorem mendText_ok {G : Sn} (hG : WG G) {P : Pg} (hW : Wf P) (M : Mem) (hP : PgC M 14 P) (hS : CSg G M) (hV : MdV G.1 P M) : Ok (f_X9_mendText M) (fun r => (P.len + gsm G.1 P (Kk G.1 P) ≤ 240 → r.1 = 1 ∧ PgC r.2 14 (rpS G P (Kk G.1 P) P) ∧ r.2 0 16 = 1 ∧ r.2 0 17 = 1 ∧ ∀ c i, c ≠ 14 → c ≠ 15 → c ≠ 16 → ¬ (c = 0 ∧ (i = 16 ∨ i = 17)) → r.2 c i = M c i) ∧ (¬ P.len + gsm G.1 P (Kk G.1 P) ≤ 240 → r.1 = 0 ∧ r.2 = M)) := by
  have hK := Kk_le G.1 hW
  have l0 := hW.l0
  have l1 := hW.l1
  have gb := gsm_bd G.1 P (Kk G.1 P)
  have cb : 0 ≤ Cnt G.1 P (Kk G.1 P) ∧ Cnt G.1 P (Kk G.1 P) ≤ Kk G.1 P := cnt_bd _ _ _ _
  have e11 : M 66 11 = Cnt G.1 P (Kk G.1 P) := hV.2.1.1
  unfold f_X9_mendText f_X2_growth
  refine .bind (.val (growth_L hW hV (Kk G.1 P) 4096 0 0 0 (by omega) (by omega) (by omega) rfl rfl)) (fun x hx => .bind (.val (hasRoom_ok 14 x M (by rw [hP.1]; omega) (by rw [hP.1]; omega))) (fun z hz => ?_))
  rw [hP.1] at hz
  subst hx
  by_cases h : P.len + gsm G.1 P (Kk G.1 P) ≤ 240
  · rw [if_pos (by omega)] at hz
    refine .ifF (by omega) (.let fun u eu => ?_)
    rw [e11, w32_of (by omega) (by omega)] at eu
    exact (mt_L hG hW (Kk G.1 P) 4096 u M P (Nat.le_refl _) (by omega) eu (RC_start hW h) hP hS hV).mono (fun r hr => ⟨fun _ => hr, fun x => absurd h x⟩)
  · rw [if_neg (by omega)] at hz
    exact .ifT hz (.ret ⟨fun x => absurd x h, fun _ => ⟨rfl, rfl⟩⟩)
/-! the model does it -/
theorem lb_L {T : Tx} {G : Sn} {M : Mem} (hW : WT T) (h : MR T G M) : ∀ (r fuel k : Nat) (a v : Int), Kk G.1 T.1 - k = r → r < fuel → k ≤ Kk G.1 T.1 → v = k → a = T.1.len + gsm G.1 T.1 k → f_X10_longBehind_L9 fuel a v M = some (T.1.len + gsm G.1 T.1 (Kk G.1 T.1)) := by
  have hK := Kk_le G.1 hW.1
  have l0 := hW.1.l0
  have l1 := hW.1.l1
  have m26 : M 84 26 = Kk G.1 T.1 := h.1.mg.1
  intro r
  induction r with
  | zero =>
    intro fuel k a v hr hf hk hv ha
    obtain ⟨fuel, rfl⟩ : ∃ f, fuel = f + 1 := ⟨fuel - 1, by omega⟩
    have : k = Kk G.1 T.1 := by omega
    subst this
    rw [f_X10_longBehind_L9, if_pos (by omega), ha]
  | succ r ih =>
    intro fuel k a v hr hf hk hv ha
    obtain ⟨fuel, rfl⟩ : ∃ f, fuel = f + 1 := ⟨fuel - 1, by omega⟩
    subst hv
    have gb := gsm_bd G.1 T.1 k
    have e : gsm G.1 T.1 (k + 1) = gsm G.1 T.1 k + gsf G.1 T.1 k := rfl
    rw [f_X10_longBehind_L9, if_neg (by omega), if_pos (by omega), (h.2 k (by omega)).1]
    simp only [lt1_e]
    rw [w32_of (i := a + -1) (by omega) (by omega), w32_of (i := (k : Int) + 1) (by omega) (by omega), w32_of (i := a + 1) (by omega) (by omega), w32_of (i := a + 0) (by omega) (by omega)]
    by_cases d0 : Da G.1 T.1 k = 0
    · have g : gsf G.1 T.1 k = -1 := by unfold gsf; rw [if_pos d0]
      rw [if_pos d0]
      exact ih fuel (k + 1) _ _ (by omega) (by omega) (by omega) (by omega) (by omega)
    · rw [if_neg d0]
      by_cases d1 : Da G.1 T.1 k = 1
      · have g : gsf G.1 T.1 k = 1 := by unfold gsf; rw [if_neg d0, if_pos d1]
        rw [if_pos d1]
        exact ih fuel (k + 1) _ _ (by omega) (by omega) (by omega) (by omega) (by omega)
      · have g : gsf G.1 T.1 k = 0 := by unfold gsf; rw [if_neg d0, if_neg d1]
        rw [if_neg d1]
        exact ih fuel (k + 1) _ _ (by omega) (by omega) (by omega) (by omega) (by omega)
theorem longBehind_at {T : Tx} {G : Sn} {M : Mem} (hW : WT T) (h : MR T G M) (p0 : M 90 0 = T.1.len) : f_X10_longBehind M = some (T.1.len + gsm G.1 T.1 (Kk G.1 T.1)) := by
  have hK := Kk_le G.1 hW.1
  unfold f_X10_longBehind
  rw [lt1_e, p0]
  exact lb_L hW h (Kk G.1 T.1) 4096 0 _ 0 (by omega) (by omega) (by omega) rfl (by show T.1.len = T.1.len + 0; omega)
theorem PgM.setB {M M' : Mem} {Q : Pg} (h : PgM M 90 0 Q) (hm : Q.mk ≤ 8) {a c : Int} (ha : 0 ≤ a) (e : ∀ b i, M' b i = if b = 90 ∧ i = 14 + a then c else M b i) : PgM M' 90 0 (setB Q a c) := by
  obtain ⟨q1, q2, q3, q4, q5, q6, q7, q8⟩ := h
  refine ⟨?_, ?_, ?_, ?_, ?_, ?_, fun p p0 p1 => ?_, fun k k0 k1 => ?_⟩
  · rw [e, if_neg (by omega)]; exact q1
  · rw [e, if_neg (by omega)]; exact q2
  · rw [e, if_neg (by omega)]; exact q3
  · rw [e, if_neg (by omega)]; exact q4
  · rw [e, if_neg (by omega)]; exact q5
  · rw [e, if_neg (by omega)]; exact q6
  · show _ = if p = a then c else Q.b p
    rw [e]
    by_cases h : p = a
    · rw [if_pos ⟨rfl, by omega⟩, if_pos h]
    · rw [if_neg (by omega), if_neg h]; exact q7 p p0 p1
  · have k1 : k < Q.mk := k1
    rw [e, if_neg (by omega)]; exact q8 k k0 k1
theorem mr_L {T : Tx} {G : Sn} (hW : WT T) (hG : WG G) : ∀ (k fuel : Nat) (v : Int) (M : Mem) (Q : Pg), k ≤ Kk G.1 T.1 → k < fuel → v = (k : Int) - 1 → RC G T.1 k Q → PgM M 90 0 Q → MSg G M → MR T G M → Ok (f_X10_repairs_L7 fuel v M) (fun M' => PgM M' 90 0 (rpS G T.1 k Q) ∧ Fr1 M M' 90) := by
  have hK := Kk_le G.1 hW.1
  have g4 := hG.2.2.2.1
  intro k
  induction k with
  | zero =>
    intro fuel v M Q hk hf hv hR hP hS hV
    obtain ⟨fuel, rfl⟩ : ∃ f, fuel = f + 1 := ⟨fuel - 1, by omega⟩
    rw [f_X10_repairs_L7]
    exact .ifT (by omega) (.ret ⟨hP, fun _ _ _ => rfl⟩)
  | succ k ih =>
    intro fuel v M Q hk hf hv hR hP hS hV
    obtain ⟨fuel, rfl⟩ : ∃ f, fuel = f + 1 := ⟨fuel - 1, by omega⟩
    have hv2 : v = (k : Int) := by omega
    subst hv2
    have hkK : k < Kk G.1 T.1 := by omega
    have hS1 := RC_step hG hW.1 hkK hR
    obtain ⟨h1, h2, h3⟩ := hR
    have pl := plI_len (G := G) hW.1 hkK
    have pq := h2 k (by omega)
    have rk := rr_kind hG T.1 hkK
    have dg := hV.2 k hkK
    have mg := hV.1.mg.2 k hkK
    have m93 : M 93 k = plI (Rof G.1 T.1) (Nn T.1) k := mg.1
    have m94 : M 94 k = Rr G.1 T.1 k / 2 := mg.2.1
    have m95 : M 95 k = 1 - Rr G.1 T.1 k % 2 := mg.2.2
    have l1 := h1.l1
    have sg : ∀ j : Int, 0 ≤ j → j < G.2.1 → M 85 j = G.2.2 (2 * j).toNat ∧ M 86 j = G.2.2 (2 * j + 1).toNat := fun j j0 j1 => by
      have := hS.2.2 j.toNat (by omega)
      rw [show ((j.toNat : Nat) : Int) = j by omega] at this
      rw [show (2 * j + 1).toNat = 2 * j.toNat + 1 by omega, show (2 * j).toNat = 2 * j.toNat by omega]
      exact this
    have go : ∀ M1 : Mem, PgM M1 90 0 (stpP G T.1 k Q) → Fr1 M M1 90 → Ok (lt1 (w32 ((k : Int) + -1)) fun u => f_X10_repairs_L7 fuel u M1) (fun M' => PgM M' 90 0 (rpS G T.1 (k + 1) Q) ∧ Fr1 M M' 90) := by
      intro M1 c1 c2
      refine .let fun u eu => ?_
      rw [w32_of (by omega) (by omega)] at eu
      refine (ih fuel u M1 (stpP G T.1 k Q) (by omega) (by omega) (by omega) hS1 c1 (hS.same (fun c i hc => c2 c (by omega) i)) ⟨hV.1.same (fun c i hc => c2 c (by omega) i), fun j hj => by rw [c2 100 (by omega), c2 101 (by omega)]; exact hV.2 j hj⟩).mono (fun M' ⟨a, b⟩ => ⟨a, c2.trans b⟩)
    rw [f_X10_repairs_L7, dg.1, m93, m94, m95]
    refine .ifF (by omega) (.ifT (by omega) ?_)
    by_cases d0 : Da G.1 T.1 k = 0
    · rw [w32_of (i := plI (Rof G.1 T.1) (Nn T.1) k + 1) (by omega) (by omega)]
      refine .ifT d0 (.bind (takesOut_ok _ _ M hP h1 pl.1 (by omega) (by omega)) (fun M1 ⟨c1, c2⟩ => go M1 ?_ c2))
      unfold stpP; rw [if_pos d0]; exact c1
    · refine .ifF d0 ?_
      by_cases d1 : Da G.1 T.1 k = 1
      · have g : gsf G.1 T.1 k = 1 := by unfold gsf; rw [if_neg d0, if_pos d1]
        have e : gsm G.1 T.1 (k + 1) = gsm G.1 T.1 k + gsf G.1 T.1 k := rfl
        have ca := cd_alone hG hkK (Or.inr d1)
        have ga := gsm_ge (G := G) (P := T.1) (by omega) k
        refine .ifT d1 ?_
        have s := sg (Rr G.1 T.1 k / 2) (by omega) (by omega)
        by_cases ev : Rr G.1 T.1 k % 2 = 0
        · rw [w32_of (i := plI (Rof G.1 T.1) (Nn T.1) k + 1) (by omega) (by omega), s.2, show 2 * (Rr G.1 T.1 k / 2) + 1 = Rr G.1 T.1 k + 1 by omega]
          refine .ifF (by omega) (.ifF (by omega) (.ifT (by omega) (.bind (puts_ok _ _ M hP h1 (by omega) (by omega) (by omega)) (fun M1 ⟨c1, c2⟩ => go M1 ?_ c2))))
          unfold stpP; rw [if_neg d0, if_pos d1, if_pos ev]; exact c1
        · rw [s.1, show 2 * (Rr G.1 T.1 k / 2) = Rr G.1 T.1 k - 1 by omega]
          refine .ifT (by omega) (.ifT (by omega) (.ifT (by omega) (.bind (puts_ok _ _ M hP h1 (by omega) (by omega) (by omega)) (fun M1 ⟨c1, c2⟩ => go M1 ?_ c2))))
          unfold stpP; rw [if_neg d0, if_pos d1, if_neg ev]; exact c1
      · refine .ifF d1 ?_
        by_cases d2 : Da G.1 T.1 k = 2
        · have c2 := cd_two hG hkK d2
          have gt : Gt G.1 T.1 k = Cd G.1 T.1 k / 2 := by unfold Gt gtC; rw [if_neg (by omega)]
          have s := sg (Cd G.1 T.1 k / 2) (by omega) (by omega)
          rw [dg.2, gt, w32_of (i := 14 + plI (Rof G.1 T.1) (Nn T.1) k) (by omega) (by omega), s.2, show 2 * (Cd G.1 T.1 k / 2) + 1 = Cd G.1 T.1 k by omega]
          refine .ifT d2 (.ifT (by omega) (.ifT (by omega) (.put fun M1 e1 => go M1 ?_ (fun c hc i => by rw [e1, if_neg (by omega)]))))
          unfold stpP; rw [if_neg d0, if_neg d1, if_pos d2]
          exact hP.setB h1.m1 pl.1 e1
        · refine .ifF d2 (go M ?_ (fun _ _ _ => rfl))
          unfold stpP; rw [if_neg d0, if_neg d1, if_neg d2]; exact hP
theorem repairs_ok {T : Tx} {G : Sn} {B : Bx} {M : Mem} (hW : WT T) (hG : WG G) (h : MoI T G B M) (hV : MR T G M) (hl : T.1.len + gsm G.1 T.1 (Kk G.1 T.1) ≤ 240) : Ok (f_X10_repairs M) (fun M' => MoI (rpS G T.1 (Kk G.1 T.1) T.1, T.2) G B M' ∧ FrM M M' ∧ M' 84 0 = M 84 0) := by
  have hK := Kk_le G.1 hW.1
  have m26 : M 84 26 = Kk G.1 T.1 := hV.1.mg.1
  unfold f_X10_repairs
  refine .let fun u eu => ?_
  rw [m26, w32_of (by omega) (by omega)] at eu
  exact (mr_L hW hG (Kk G.1 T.1) 4096 u M T.1 (Nat.le_refl _) (by omega) eu (RC_start hW.1 hl) h.1 h.2.2.2.1 hV).mono (fun M' ⟨a, b⟩ => h.page a b)
