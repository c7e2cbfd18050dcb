/-! ===== what the model answers of brackets ===== -/
theorem lt1_e {α β : Type} (a : α) (k : α → β) : lt1 a k = k a := rfl
def RB7 (R : Nat → Int) : Prop := ∀ p : Nat, R p = -1 ∨ (0 ≤ R p ∧ R p ≤ 7)
/-- the model's brackets with their partners -/
def MB (R T : Nat → Int) (N : Nat) (M : Mem) : Prop := N ≤ 240 ∧ RB7 R ∧ PS R N T ∧ MA R N M ∧ MP R T N M
theorem PS.none {R T : Nat → Int} {N : Nat} (h : PS R N T) (hR : RB7 R) {p : Nat} (hr : R p = -1) : T p = -1 := by
  by_cases h1 : T p = -1
  · exact h1
  · have := h.1 p
    have a := h.2.1 p (T p).toNat (by omega)
    by_cases h2 : p < (T p).toNat
    · exact absurd hr (h.2.2.1 p (T p).toNat (by omega) h2).1
    · have b := h.2.2.1 (T p).toNat p a.1 (by omega)
      have := hR (T p).toNat
      omega
/-- the place of a partner -/
theorem PS.mate {R T : Nat → Int} {N : Nat} (h : PS R N T) {p : Nat} (hp : T p ≠ -1) : ∃ q : Nat, T p = q ∧ T q = p ∧ q < N ∧ p < N ∧ p ≠ q := by
  have := h.1 p
  have a := h.2.1 p (T p).toNat (by omega)
  exact ⟨(T p).toNat, by omega, a.1, a.2.2.2, a.2.2.1, a.2.1⟩
theorem isPair_at {R T : Nat → Int} {N : Nat} {M : Mem} (h : MB R T N M) {p : Nat} (hp : p < N) (hr : R p ≠ -1) : f_X10_isPair (nb R p) M = some (opf T p) := by
  obtain ⟨hN, hR, hP, hA, hM⟩ := h
  have b := nb_bd R p
  have l := nb_lt hp hr
  have bN := nb_bd R N
  have a := hA.2 p hp hr
  have m := hM p hp hr
  have rp := hR p
  unfold f_X10_isPair opf
  rw [if_pos (by omega), a.2.2, m]
  by_cases h1 : T p = -1
  · rw [h1, enc_no, if_pos rfl, if_neg (c := (p : Int) < -1) (by omega)]
    split <;> rfl
  · obtain ⟨q, e1, e2, e3, e4, e5⟩ := hP.mate h1
    rw [e1, enc_is]
    have bq := nb_bd R q
    by_cases h2 : p < q
    · have := hP.2.2.1 p q e1 h2
      rw [if_neg (by omega), if_neg (by omega), if_pos (by omega)]
    · have := hP.2.2.1 q p e2 (by omega)
      rw [if_pos (by omega), if_neg (by omega)]
theorem end_at {R T : Nat → Int} {N : Nat} {M : Mem} (h : MB R T N M) {p : Nat} (hp : p < N) (hr : R p ≠ -1) (ho : T p ≠ -1) : f_X10_end (nb R p) M = some (T p) := by
  obtain ⟨hN, hR, hP, hA, hM⟩ := h
  have b := nb_bd R p
  have l := nb_lt hp hr
  have bN := nb_bd R N
  have m := hM p hp hr
  obtain ⟨q, e1, e2, e3, e4, e5⟩ := hP.mate ho
  have rq : R q ≠ -1 := fun e => by
    have := hP.none hR e
    omega
  have lq := nb_lt e3 rq
  have bq := nb_bd R q
  unfold f_X10_end
  rw [if_pos (by omega), m, e1, enc_is, if_pos (by omega), (hA.2 q e3 rq).1]
theorem isAround_at {R T : Nat → Int} {N : Nat} {M : Mem} (h : MB R T N M) {p : Nat} (hp : p < N) (hr : R p ≠ -1) (v : Int) : f_X10_isAround (nb R p) v M = some (arf T v p) := by
  have b := nb_bd R p
  have l := nb_lt hp hr
  have bN := nb_bd R N
  unfold f_X10_isAround arf
  rw [isPair_at h hp hr]
  simp only [Option.bind_some]
  unfold opf
  by_cases h1 : (p : Int) < T p
  · rw [if_pos h1, if_neg (by decide), if_pos (by have := h.1; omega), (h.2.2.2.1.2 p hp hr).1]
    by_cases h2 : v ≤ p
    · rw [if_pos h2, if_neg (by omega)]
    · rw [if_neg h2, end_at h hp hr (by omega)]
      simp only [Option.bind_some]
      by_cases h3 : T p ≤ v
      · rw [if_pos h3, if_neg (by omega)]
      · rw [if_neg h3, if_pos (by omega)]
  · rw [if_neg h1, if_pos rfl, if_neg (by omega)]
theorem arf_no {R T : Nat → Int} {N : Nat} (h : PS R N T) (hR : RB7 R) {p : Nat} (hr : R p = -1) (v : Int) : arf T v p = 0 := by
  have := h.none hR hr
  unfold arf
  rw [if_neg (by omega)]
theorem depthAt_L4_at {R T : Nat → Int} {N : Nat} {M : Mem} (h : MB R T N M) (v : Int) : ∀ n : Nat, n ≤ N → ∀ (fuel : Nat) (acc v3 : Int), N - n < fuel → v3 = nb R n → 0 ≤ acc → acc ≤ n → f_X10_depthAt_L4 fuel v acc v3 M = some (acc + (sm (arf T v) N - sm (arf T v) n)) := by
  have hN := h.1
  have bN := nb_bd R N
  have hA := h.2.2.2.1
  refine byPl R N ?_ (fun n hn hr C => ?_) (fun n hn hr C => ?_)
  · intro fuel acc v3 hf h3 a0 a1
    obtain ⟨fuel, rfl⟩ : ∃ f, fuel = f + 1 := ⟨fuel - 1, by omega⟩
    rw [f_X10_depthAt_L4, if_pos (by rw [hA.1]; omega)]
    exact congrArg some (by omega)
  · intro fuel acc v3 hf h3 a0 a1
    have e : sm (arf T v) (n + 1) = sm (arf T v) n := by rw [sm, arf_no h.2.2.1 h.2.1 hr]; omega
    rw [C fuel acc v3 (by omega) (by rw [nb_s0 hr]; exact h3) a0 (by omega), e]
  · intro fuel acc v3 hf h3 a0 a1
    obtain ⟨fuel, rfl⟩ : ∃ f, fuel = f + 1 := ⟨fuel - 1, by omega⟩
    have b := nb_bd R n
    have l := nb_lt hn hr
    subst h3
    have e : sm (arf T v) (n + 1) = sm (arf T v) n + arf T v n := rfl
    have bd : arf T v n = 0 ∨ arf T v n = 1 := by unfold arf; split <;> omega
    rw [f_X10_depthAt_L4, if_neg (by rw [hA.1]; omega), isAround_at h hn hr]
    simp only [Option.bind_some, lt1_e]
    rcases bd with hb | hb
    · rw [hb, if_pos rfl, w32_of (i := acc + 0) (by omega) (by omega), w32_of (by omega) (by omega), C fuel _ _ (by omega) (by rw [nb_s1 hr]) (by omega) (by omega), e, hb]
      exact congrArg some (by omega)
    · rw [hb, if_neg (by decide), w32_of (i := acc + 1) (by omega) (by omega), w32_of (by omega) (by omega), C fuel _ _ (by omega) (by rw [nb_s1 hr]) (by omega) (by omega), e, hb]
      exact congrArg some (by omega)
theorem depthAt_at {R T : Nat → Int} {N : Nat} {M : Mem} (h : MB R T N M) (v : Int) : f_X10_depthAt v M = some (ar T N v) := by
  unfold f_X10_depthAt
  rw [depthAt_L4_at h v 0 (by omega) 4096 0 0 (by have := h.1; omega) rfl (by omega) (by omega)]
  exact congrArg some (by show 0 + (sm (arf T v) N - 0) = sm (arf T v) N; omega)
theorem outer_L4_at {R T : Nat → Int} {N : Nat} {M : Mem} (h : MB R T N M) (v : Int) : ∀ n : Nat, n ≤ N → ∀ (fuel : Nat) (v2 v3 : Int), N - n < fuel → v3 = nb R n → v2 = enc R (ou T v n) → f_X10_outer_L4 fuel v v2 v3 M = some (enc R (ou T v N)) := by
  have hN := h.1
  have bN := nb_bd R N
  have hA := h.2.2.2.1
  refine byPl R N ?_ (fun n hn hr C => ?_) (fun n hn hr C => ?_)
  · intro fuel v2 v3 hf h3 h2
    obtain ⟨fuel, rfl⟩ : ∃ f, fuel = f + 1 := ⟨fuel - 1, by omega⟩
    rw [f_X10_outer_L4, if_pos (by rw [hA.1]; omega), h2]
  · intro fuel v2 v3 hf h3 h2
    have e : ou T v (n + 1) = ou T v n := by
      have := h.2.2.1.none h.2.1 hr
      rw [ou, if_neg (by omega)]
    exact C fuel v2 v3 (by omega) (by rw [nb_s0 hr]; exact h3) (by rw [e]; exact h2)
  · intro fuel v2 v3 hf h3 h2
    obtain ⟨fuel, rfl⟩ : ∃ f, fuel = f + 1 := ⟨fuel - 1, by omega⟩
    have b := nb_bd R n
    have l := nb_lt hn hr
    subst h3
    rw [f_X10_outer_L4, if_neg (by rw [hA.1]; omega), isAround_at h hn hr]
    simp only [Option.bind_some, lt1_e]
    unfold arf
    by_cases hc : (n : Int) < v ∧ v < T n
    · rw [if_pos hc, if_neg (by decide), w32_of (by omega) (by omega)]
      exact C fuel _ _ (by omega) (by rw [nb_s1 hr]) (by rw [ou, if_pos hc, enc_is])
    · rw [if_neg hc, if_pos rfl, w32_of (by omega) (by omega)]
      exact C fuel _ _ (by omega) (by rw [nb_s1 hr]) (by rw [ou, if_neg hc]; exact h2)
theorem outer_at {R T : Nat → Int} {N : Nat} {M : Mem} (h : MB R T N M) (v : Int) : f_X10_outer v M = some (enc R (ou T v N)) := by
  unfold f_X10_outer
  exact outer_L4_at h v 0 (by omega) 4096 (-1) 0 (by have := h.1; omega) rfl rfl
theorem opf_no {R T : Nat → Int} {N : Nat} (h : PS R N T) (hR : RB7 R) {p : Nat} (hr : R p = -1) : opf T p = 0 := by
  have := h.none hR hr
  unfold opf
  rw [if_neg (by omega)]
theorem pairs_L4_at {R T : Nat → Int} {N : Nat} {M : Mem} (h : MB R T N M) : ∀ n : Nat, n ≤ N → ∀ (fuel : Nat) (acc v3 : Int), N - n < fuel → v3 = nb R n → 0 ≤ acc → acc ≤ n → f_X10_pairs_L4 fuel acc v3 M = some (acc + (sm (opf T) N - sm (opf T) n)) := by
  have hN := h.1
  have bN := nb_bd R N
  have hA := h.2.2.2.1
  refine byPl R N ?_ (fun n hn hr C => ?_) (fun n hn hr C => ?_)
  · intro fuel acc v3 hf h3 a0 a1
    obtain ⟨fuel, rfl⟩ : ∃ f, fuel = f + 1 := ⟨fuel - 1, by omega⟩
    rw [f_X10_pairs_L4, if_pos (by rw [hA.1]; omega)]
    exact congrArg some (by omega)
  · intro fuel acc v3 hf h3 a0 a1
    have e : sm (opf T) (n + 1) = sm (opf T) n := by rw [sm, opf_no h.2.2.1 h.2.1 hr]; omega
    rw [C fuel acc v3 (by omega) (by rw [nb_s0 hr]; exact h3) a0 (by omega), e]
  · intro fuel acc v3 hf h3 a0 a1
    obtain ⟨fuel, rfl⟩ : ∃ f, fuel = f + 1 := ⟨fuel - 1, by omega⟩
    have b := nb_bd R n
    have l := nb_lt hn hr
    subst h3
    have e : sm (opf T) (n + 1) = sm (opf T) n + opf T n := rfl
    have bd : opf T n = 0 ∨ opf T n = 1 := by unfold opf; split <;> omega
    rw [f_X10_pairs_L4, if_neg (by rw [hA.1]; omega), isPair_at h hn hr]
    simp only [Option.bind_some, lt1_e]
    rcases bd with hb | hb
    · rw [hb, if_pos rfl, w32_of (i := acc + 0) (by omega) (by omega), w32_of (by omega) (by omega), C fuel _ _ (by omega) (by rw [nb_s1 hr]) (by omega) (by omega), e, hb]
      exact congrArg some (by omega)
    · rw [hb, if_neg (by decide), w32_of (i := acc + 1) (by omega) (by omega), w32_of (by omega) (by omega), C fuel _ _ (by omega) (by rw [nb_s1 hr]) (by omega) (by omega), e, hb]
      exact congrArg some (by omega)
theorem pairs_at {R T : Nat → Int} {N : Nat} {M : Mem} (h : MB R T N M) : f_X10_pairs M = some (sm (opf T) N) := by
  unfold f_X10_pairs
  rw [pairs_L4_at h 0 (by omega) 4096 0 0 (by have := h.1; omega) rfl (by omega) (by omega)]
  exact congrArg some (by show 0 + (sm (opf T) N - 0) = sm (opf T) N; omega)
def lnf (R T : Nat → Int) (p : Nat) : Int := if R p ≠ -1 ∧ T p = -1 then 1 else 0
theorem lones_L4_at {R T : Nat → Int} {N : Nat} {M : Mem} (h : MB R T N M) : ∀ n : Nat, n ≤ N → ∀ (fuel : Nat) (acc v3 : Int), N - n < fuel → v3 = nb R n → 0 ≤ acc → acc ≤ n → f_X10_lones_L4 fuel acc v3 M = some (acc + (sm (lnf R T) N - sm (lnf R T) n)) := by
  have hN := h.1
  have bN := nb_bd R N
  have hA := h.2.2.2.1
  refine byPl R N ?_ (fun n hn hr C => ?_) (fun n hn hr C => ?_)
  · intro fuel acc v3 hf h3 a0 a1
    obtain ⟨fuel, rfl⟩ : ∃ f, fuel = f + 1 := ⟨fuel - 1, by omega⟩
    rw [f_X10_lones_L4, if_pos (by rw [hA.1]; omega)]
    exact congrArg some (by omega)
  · intro fuel acc v3 hf h3 a0 a1
    have e : sm (lnf R T) (n + 1) = sm (lnf R T) n := by
      rw [sm]
      have : lnf R T n = 0 := by unfold lnf; rw [if_neg (by omega)]
      omega
    rw [C fuel acc v3 (by omega) (by rw [nb_s0 hr]; exact h3) a0 (by omega), e]
  · intro fuel acc v3 hf h3 a0 a1
    obtain ⟨fuel, rfl⟩ : ∃ f, fuel = f + 1 := ⟨fuel - 1, by omega⟩
    have b := nb_bd R n
    have l := nb_lt hn hr
    subst h3
    have e : sm (lnf R T) (n + 1) = sm (lnf R T) n + lnf R T n := rfl
    rw [f_X10_lones_L4, if_neg (by rw [hA.1]; omega), if_pos (by omega), h.2.2.2.2 n hn hr]
    simp only [lt1_e]
    by_cases ht : T n = -1
    · have hb : lnf R T n = 1 := by unfold lnf; rw [if_pos ⟨hr, ht⟩]
      rw [ht, enc_no, if_pos rfl, w32_of (i := acc + 1) (by omega) (by omega), w32_of (by omega) (by omega), C fuel _ _ (by omega) (by rw [nb_s1 hr]) (by omega) (by omega), e, hb]
      exact congrArg some (by omega)
    · have hb : lnf R T n = 0 := by unfold lnf; rw [if_neg (fun c => ht c.2)]
      obtain ⟨q, e1, e2, e3, e4, e5⟩ := h.2.2.1.mate ht
      have bq := nb_bd R q
      rw [e1, enc_is, if_neg (by omega), w32_of (i := acc + 0) (by omega) (by omega), w32_of (by omega) (by omega), C fuel _ _ (by omega) (by rw [nb_s1 hr]) (by omega) (by omega), e, hb]
      exact congrArg some (by omega)
theorem lones_at {R T : Nat → Int} {N : Nat} {M : Mem} (h : MB R T N M) : f_X10_lones M = some (sm (lnf R T) N) := by
  unfold f_X10_lones
  rw [lones_L4_at h 0 (by omega) 4096 0 0 (by have := h.1; omega) rfl (by omega) (by omega)]
  exact congrArg some (by show 0 + (sm (lnf R T) N - 0) = sm (lnf R T) N; omega)
theorem ln_op {R T : Nat → Int} {N : Nat} (h : PS R N T) (hR : RB7 R) : nb R N = sm (lnf R T) N + 2 * sm (opf T) N := by
  have e : nb R N = sm (lnf R T) N + sm (opf T) N + sm (clf T) N := by
    rw [← sm_add, ← sm_add]
    refine sm_congr N (fun p hp => ?_)
    show (if R p = -1 then (0 : Int) else 1) = lnf R T p + opf T p + clf T p
    unfold lnf opf clf
    by_cases hr : R p = -1
    · have := h.none hR hr
      rw [if_pos hr, if_neg (by omega), if_neg (by omega), if_neg (by omega)]; omega
    · rw [if_neg hr]
      by_cases ht : T p = -1
      · rw [if_pos ⟨hr, ht⟩, if_neg (by omega), if_neg (by omega)]; omega
      · obtain ⟨q, e1, e2, e3, e4, e5⟩ := h.mate ht
        rw [if_neg (fun c => ht c.2)]
        by_cases h2 : p < q
        · rw [if_pos (by omega), if_neg (by omega)]; omega
        · rw [if_neg (by omega), if_pos (by omega)]; omega
  have := op_cl h
  omega
theorem deepest_L4_at {R T : Nat → Int} {N : Nat} {M : Mem} (h : MB R T N M) : ∀ n : Nat, n ≤ N → ∀ (fuel : Nat) (v1 v2 : Int), N - n < fuel → v2 = nb R n → v1 = dps T N n → f_X10_deepest_L4 fuel v1 v2 M = some (dps T N N) := by
  have hN := h.1
  have bN := nb_bd R N
  have hA := h.2.2.2.1
  refine byPl R N ?_ (fun n hn hr C => ?_) (fun n hn hr C => ?_)
  · intro fuel v1 v2 hf h2 h1
    obtain ⟨fuel, rfl⟩ : ∃ f, fuel = f + 1 := ⟨fuel - 1, by omega⟩
    rw [f_X10_deepest_L4, if_pos (by rw [hA.1]; omega), h1]
  · intro fuel v1 v2 hf h2 h1
    have e : dps T N (n + 1) = dps T N n := by
      have := h.2.2.1.none h.2.1 hr
      rw [dps, if_neg (by omega)]
    exact C fuel v1 v2 (by omega) (by rw [nb_s0 hr]; exact h2) (by rw [e]; exact h1)
  · intro fuel v1 v2 hf h2 h1
    obtain ⟨fuel, rfl⟩ : ∃ f, fuel = f + 1 := ⟨fuel - 1, by omega⟩
    have b := nb_bd R n
    have l := nb_lt hn hr
    subst h2
    rw [f_X10_deepest_L4, if_neg (by rw [hA.1]; omega), isPair_at h hn hr]
    simp only [Option.bind_some, lt1_e]
    unfold opf
    by_cases hc : (n : Int) < T n
    · rw [if_pos hc, if_neg (by decide), if_pos (by omega), (hA.2 n hn hr).1, depthAt_at h]
      simp only [Option.bind_some]
      rw [w32_of (by omega) (by omega)]
      exact C fuel _ _ (by omega) (by rw [nb_s1 hr]) (by rw [dps, if_pos hc, h1])
    · rw [if_neg hc, if_pos rfl, w32_of (by omega) (by omega)]
      exact C fuel _ _ (by omega) (by rw [nb_s1 hr]) (by rw [dps, if_neg hc]; exact h1)
theorem deepest_at {R T : Nat → Int} {N : Nat} {M : Mem} (h : MB R T N M) : f_X10_deepest M = some (dps T N N) := by
  unfold f_X10_deepest
  exact deepest_L4_at h 0 (by omega) 4096 (-1) 0 (by have := h.1; omega) rfl rfl
/-- a place's number as a bracket, if it is one -/
def bn (R : Nat → Int) (p : Nat) : Int := if R p = -1 then -1 else nb R p
theorem bracketAt_L2_at {R T : Nat → Int} {N : Nat} {M : Mem} (h : MB R T N M) (v : Nat) (hv : v < N) : ∀ n : Nat, n ≤ N → ∀ (fuel : Nat) (v2 : Int), N - n < fuel → v2 = nb R n → f_X10_bracketAt_L2 fuel v v2 M = some (if n ≤ v then bn R v else -1) := by
  have hN := h.1
  have bN := nb_bd R N
  have hA := h.2.2.2.1
  refine byPl R N ?_ (fun n hn hr C => ?_) (fun n hn hr C => ?_)
  · intro fuel v2 hf h2
    obtain ⟨fuel, rfl⟩ : ∃ f, fuel = f + 1 := ⟨fuel - 1, by omega⟩
    rw [f_X10_bracketAt_L2, if_pos (by rw [hA.1]; omega), if_neg (by omega)]
  · intro fuel v2 hf h2
    rw [C fuel v2 (by omega) (by rw [nb_s0 hr]; exact h2)]
    by_cases e : n = v
    · subst e
      unfold bn
      rw [if_neg (by omega), if_pos (Nat.le_refl _), if_pos hr]
    · by_cases e2 : n ≤ v
      · rw [if_pos (by omega), if_pos e2]
      · rw [if_neg (by omega), if_neg e2]
  · intro fuel v2 hf h2
    obtain ⟨fuel, rfl⟩ : ∃ f, fuel = f + 1 := ⟨fuel - 1, by omega⟩
    have b := nb_bd R n
    have l := nb_lt hn hr
    subst h2
    rw [f_X10_bracketAt_L2, if_neg (by rw [hA.1]; omega), if_pos (by omega), (hA.2 n hn hr).1]
    by_cases e : n = v
    · subst e
      unfold bn
      rw [if_pos rfl, if_pos (Nat.le_refl _), if_neg hr]
    · rw [if_neg (by omega), lt1_e, w32_of (by omega) (by omega), C fuel _ (by omega) (by rw [nb_s1 hr])]
      by_cases e2 : n ≤ v
      · rw [if_pos (by omega), if_pos e2]
      · rw [if_neg (by omega), if_neg e2]
theorem bracketAt_at {R T : Nat → Int} {N : Nat} {M : Mem} (h : MB R T N M) {v : Nat} (hv : v < N) : f_X10_bracketAt v M = some (bn R v) := by
  unfold f_X10_bracketAt
  rw [bracketAt_L2_at h v hv 0 (by omega) 4096 0 (by have := h.1; omega) rfl, if_pos (by omega)]
theorem hasPartner_at {R T : Nat → Int} {N : Nat} {M : Mem} (h : MB R T N M) {v : Nat} (hv : v < N) : f_X10_hasPartner (bn R v) M = some (if T v = -1 then 0 else 1) := by
  unfold f_X10_hasPartner bn
  by_cases hr : R v = -1
  · rw [if_pos hr, if_pos rfl, if_pos (h.2.2.1.none h.2.1 hr)]
  · have b := nb_bd R v
    have l := nb_lt hv hr
    have bN := nb_bd R N
    have hN := h.1
    rw [if_neg hr, if_neg (by omega), if_pos (by omega), h.2.2.2.2 v hv hr]
    by_cases ht : T v = -1
    · rw [ht, enc_no, if_pos rfl, if_pos rfl]
    · obtain ⟨q, e1, e2, e3, e4, e5⟩ := h.2.2.1.mate ht
      have bq := nb_bd R q
      rw [e1, enc_is, if_neg (by omega), if_neg (by omega)]
