/-! ===== searches ===== -/
def fu (f : Nat → Int) : Nat → Nat → Int → Int
  | 0, _, _ => -1
  | r + 1, n, k => if f n = 0 then fu f r (n + 1) k else if k = 0 then n else fu f r (n + 1) (k - 1)
def fd (f : Nat → Int) : Nat → Int → Int
  | 0, _ => -1
  | n + 1, k => if f n = 0 then fd f n k else if k = 0 then n else fd f n (k - 1)
theorem fu_0 {f : Nat → Int} {r n : Nat} {k : Int} (h : f n = 0) : fu f (r + 1) n k = fu f r (n + 1) k := by rw [fu, if_pos h]
theorem fu_1 {f : Nat → Int} {r n : Nat} {k : Int} (h : f n ≠ 0) : fu f (r + 1) n k = if k = 0 then (n : Int) else fu f r (n + 1) (k - 1) := by rw [fu, if_neg h]
theorem fd_0 {f : Nat → Int} {n : Nat} {k : Int} (h : f n = 0) : fd f (n + 1) k = fd f n k := by rw [fd, if_pos h]
theorem fd_1 {f : Nat → Int} {n : Nat} {k : Int} (h : f n ≠ 0) : fd f (n + 1) k = if k = 0 then (n : Int) else fd f n (k - 1) := by rw [fd, if_neg h]
theorem lnf_1 {R T : Nat → Int} {n : Nat} (h1 : R n ≠ -1) (h2 : T n = -1) : lnf R T n ≠ 0 := by unfold lnf; rw [if_pos ⟨h1, h2⟩]; decide
theorem lnf_0 {R T : Nat → Int} {n : Nat} (h : R n = -1 ∨ T n ≠ -1) : lnf R T n = 0 := by unfold lnf; rw [if_neg (fun c => h.elim c.1 (fun x => x c.2))]
theorem fu_neg (f : Nat → Int) : ∀ (r n : Nat) (k : Int), k < 0 → fu f r n k = -1 := by
  intro r
  induction r with
  | zero => intro n k _; rfl
  | succ r ih =>
    intro n k h
    rw [fu]
    split
    · exact ih _ _ h
    · rw [if_neg (by omega)]; exact ih _ _ (by omega)
theorem fu_big (f : Nat → Int) : ∀ (r n : Nat) (k : Int), (r : Int) ≤ k → fu f r n k = -1 := by
  intro r
  induction r with
  | zero => intro n k _; rfl
  | succ r ih =>
    intro n k h
    rw [fu]
    split
    · exact ih _ _ (by omega)
    · rw [if_neg (by omega)]; exact ih _ _ (by omega)
theorem fd_neg (f : Nat → Int) : ∀ (n : Nat) (k : Int), k < 0 → fd f n k = -1 := by
  intro n
  induction n with
  | zero => intro k _; rfl
  | succ n ih =>
    intro k h
    rw [fd]
    split
    · exact ih _ h
    · rw [if_neg (by omega)]; exact ih _ (by omega)
theorem fd_big (f : Nat → Int) : ∀ (n : Nat) (k : Int), (n : Int) ≤ k → fd f n k = -1 := by
  intro n
  induction n with
  | zero => intro k _; rfl
  | succ n ih =>
    intro k h
    rw [fd]
    split
    · exact ih _ (by omega)
    · rw [if_neg (by omega)]; exact ih _ (by omega)
theorem w32_low : w32 (-2147483648 - 1) = 2147483647 := by unfold w32; rw [Int.bmod_def]; omega
theorem fu_wrap (f : Nat → Int) {r n : Nat} {k : Int} (hr : r ≤ 1000) (hk : inR k) : fu f r n (w32 (k - 1)) = fu f r n (k - 1) := by
  have h1 := hk.1
  have h2 := hk.2
  by_cases h : k = -2147483648
  · subst h
    rw [w32_low, fu_big f r n _ (by omega), fu_neg f r n _ (by omega)]
  · rw [w32_of (by omega) (by omega)]
theorem fd_wrap (f : Nat → Int) {n : Nat} {k : Int} (hr : n ≤ 1000) (hk : inR k) : fd f n (w32 (k - 1)) = fd f n (k - 1) := by
  have h1 := hk.1
  have h2 := hk.2
  by_cases h : k = -2147483648
  · subst h
    rw [w32_low, fd_big f n _ (by omega), fd_neg f n _ (by omega)]
  · rw [w32_of (by omega) (by omega)]
theorem fu_skip (f : Nat → Int) (r : Nat) : ∀ (d n : Nat) (k : Int), (∀ p, n ≤ p → p < n + d → f p = 0) → fu f (d + r) n k = fu f r (n + d) k := by
  intro d
  induction d with
  | zero => intro n k _; rw [Nat.zero_add, Nat.add_zero]
  | succ d ih =>
    intro n k h
    rw [show d + 1 + r = d + r + 1 by omega, fu, if_pos (h n (by omega) (by omega)), ih (n + 1) k (fun p p0 p1 => h p (by omega) (by omega)), show n + 1 + d = n + (d + 1) by omega]
theorem fu_none (f : Nat → Int) : ∀ (r n : Nat) (k : Int), (∀ p, n ≤ p → p < n + r → f p = 0) → fu f r n k = -1 := by
  intro r
  induction r with
  | zero => intro n k _; rfl
  | succ r ih =>
    intro n k h
    rw [fu, if_pos (h n (by omega) (by omega)), ih (n + 1) k (fun p p0 p1 => h p (by omega) (by omega))]
theorem fu_end (f : Nat → Int) (d : Nat) : ∀ (r n : Nat) (k : Int), (∀ p, n + r ≤ p → p < n + r + d → f p = 0) → fu f (r + d) n k = fu f r n k := by
  intro r
  induction r with
  | zero => intro n k h; rw [Nat.zero_add]; exact fu_none f d n k (fun p p0 p1 => h p (by omega) (by omega))
  | succ r ih =>
    intro n k h
    rw [show r + 1 + d = r + d + 1 by omega, fu, fu, ih (n + 1) k (fun p p0 p1 => h p (by omega) (by omega)), ih (n + 1) (k - 1) (fun p p0 p1 => h p (by omega) (by omega))]
theorem fd_skip (f : Nat → Int) : ∀ (b a : Nat) (k : Int), a ≤ b → (∀ p, a ≤ p → p < b → f p = 0) → fd f b k = fd f a k := by
  intro b
  induction b with
  | zero => intro a k ha _; rw [show a = 0 by omega]
  | succ b ih =>
    intro a k ha h
    by_cases e : a = b + 1
    · rw [e]
    · rw [fd, if_pos (h b (by omega) (by omega)), ih a k (by omega) (fun p p0 p1 => h p p0 (by omega))]
theorem inR_pred {k : Int} : inR (w32 (k - 1)) := w32_in _
/-! lone -/
theorem c_lone_L {R T : Nat → Int} {N : Nat} (hN : N ≤ 240) {M : Mem} (hR : CR R N M) (hT : CP T N M) : ∀ (r fuel n : Nat) (k v : Int), N - n = r → r < fuel → n ≤ N → v = n → inR k → f_X5_loneAt_L4 fuel 54 k v M = some (fu (lnf R T) r n k) := by
  intro r
  induction r with
  | zero =>
    intro fuel n k v hr hf hn hv hk
    obtain ⟨fuel, rfl⟩ : ∃ f, fuel = f + 1 := ⟨fuel - 1, by omega⟩
    rw [f_X5_loneAt_L4, hR.1, if_pos (by omega)]
    rfl
  | succ r ih =>
    intro fuel n k v hr hf hn hv hk
    obtain ⟨fuel, rfl⟩ : ∃ f, fuel = f + 1 := ⟨fuel - 1, by omega⟩
    subst hv
    have k1 := hk.1
    have k2 := hk.2
    rw [f_X5_loneAt_L4, hR.1, if_neg (by omega)]
    by_cases hneg : k < 0
    · rw [if_pos hneg, fu_neg _ _ _ _ hneg]
    · rw [if_neg hneg, roleAt_at hN hR (by omega)]
      simp only [Option.bind_some, lt1_e]
      rw [w32_of (i := (n : Int) + 1) (by omega) (by omega)]
      have nx := fun k' (hk' : inR k') => ih fuel (n + 1) k' ((n : Int) + 1) (by omega) (by omega) (by omega) (by omega) hk'
      by_cases hrn : R n = -1
      · rw [if_pos hrn, nx k hk, fu_0 (lnf_0 (Or.inl hrn))]
      · rw [if_neg hrn, partnerOf_at hN hT (by omega)]
        simp only [Option.bind_some]
        by_cases ht : T n = -1
        · rw [if_pos ht, fu_1 (lnf_1 hrn ht)]
          by_cases hz : k = 0
          · rw [if_pos hz, if_pos hz]
          · rw [if_neg hz, if_neg hz, w32_of (i := k + -1) (by omega) (by omega), nx (k + -1) ⟨by omega, by omega⟩, show k + -1 = k - 1 by omega]
        · rw [if_neg ht, nx k hk, fu_0 (lnf_0 (Or.inr ht))]
theorem m_lone_L {R T : Nat → Int} {N : Nat} {M : Mem} (h : MB R T N M) : ∀ n : Nat, n ≤ N → ∀ (fuel : Nat) (k v : Int), N - n < fuel → v = nb R n → inR k → f_X10_lone_L13 fuel k v M = some (fu (lnf R T) (N - n) n k, M) := by
  have hN := h.1
  have bN := nb_bd R N
  have hA := h.2.2.2.1
  refine byPl R N ?_ (fun n hn hr C => ?_) (fun n hn hr C => ?_)
  · intro fuel k v hf hv hk
    obtain ⟨fuel, rfl⟩ : ∃ f, fuel = f + 1 := ⟨fuel - 1, by omega⟩
    rw [f_X10_lone_L13, if_pos (by rw [hA.1]; omega), Nat.sub_self]
    rfl
  · intro fuel k v hf hv hk
    rw [C fuel k v (by omega) (by rw [nb_s0 hr]; exact hv) hk, show N - n = N - (n + 1) + 1 by omega, fu_0 (lnf_0 (Or.inl hr))]
  · intro fuel k v hf hv hk
    obtain ⟨fuel, rfl⟩ : ∃ f, fuel = f + 1 := ⟨fuel - 1, by omega⟩
    have b := nb_bd R n
    have l := nb_lt hn hr
    subst hv
    rw [f_X10_lone_L13, if_neg (by rw [hA.1]; omega), if_pos (by omega), h.2.2.2.2 n hn hr, (hA.2 n hn hr).1, show N - n = N - (n + 1) + 1 by omega]
    simp only [lt1_e]
    rw [w32_of (i := nb R n + 1) (by omega) (by omega)]
    have nx := fun k' (hk' : inR k') => C fuel k' (nb R n + 1) (by omega) (by rw [nb_s1 hr]) hk'
    by_cases ht : T n = -1
    · rw [fu_1 (lnf_1 hr ht), ht, enc_no, if_pos rfl]
      by_cases hz : k = 0
      · rw [if_pos hz, if_pos hz]
      · rw [if_neg hz, if_neg hz, show k + -1 = k - 1 by omega, nx _ inR_pred, fu_wrap _ (by omega) hk]
    · obtain ⟨q, e1, e2, e3, e4, e5⟩ := h.2.2.1.mate ht
      have bq := nb_bd R q
      rw [fu_0 (lnf_0 (Or.inr ht)), e1, enc_is, if_neg (by omega), nx k hk]
def loneA (T : Tx) (G : Sn) (k : Int) : Int := fu (lnf (Rof G.1 T.1) (Pt G.1 T.1)) (Nn T.1) 0 k
theorem law_9_ok {T : Tx} {G : Sn} {B : Bx} {M : Mem} (v1 : Int) (i1 : inR v1) (hW : WT T) (hG : WG G) (hC : CI T G B M) (hM : MoI T G B M) : Ok (f_law_9 v1 M) (fun M' => CI T G B M' ∧ MoI T G B M') := by
  have hN := Nn_is hW.1
  unfold f_law_9
  refine lawV (loneA T G v1) hM hW ?_ (fun M1 h1 => ?_)
  · unfold f_X9_lone f_X5_loneAt
    exact .bind (c_readNow hW hC) (fun M1 ⟨r1, r2, r3, r4, r5⟩ => .bind (.val (c_lone_L hN.2 r1.cr r1.cp (Nn T.1) 4096 0 v1 0 (by omega) (by omega) (by omega) rfl i1)) (fun q hq => .ret ⟨hq, r3, r4⟩))
  · unfold f_X10_lone
    refine .put fun M2 e2 => ?_
    obtain ⟨a1, a2, a3⟩ := h1.put0 e2
    refine .bind (m_find hW hG a1) (fun M3 ⟨b1, b2, b3, b4, b5⟩ => (.eq (m_lone_L b1.1 0 (by omega) 4096 v1 0 (by omega) rfl i1) (.ret ⟨rfl, b2, a2.trans b3⟩)))
/-! count -/
def cf (R T : Nat → Int) (r pd : Int) (p : Nat) : Int := if R p = r ∧ (pd = 0 ∨ T p ≠ -1) then 1 else 0
theorem cf_1 {R T : Nat → Int} {r pd : Int} {p : Nat} (h : R p = r ∧ (pd = 0 ∨ T p ≠ -1)) : cf R T r pd p = 1 := by unfold cf; rw [if_pos h]
theorem cf_0 {R T : Nat → Int} {r pd : Int} {p : Nat} (h : ¬ (R p = r ∧ (pd = 0 ∨ T p ≠ -1))) : cf R T r pd p = 0 := by unfold cf; rw [if_neg h]
theorem c_count_L {R T : Nat → Int} {N : Nat} (hN : N ≤ 240) {M : Mem} (hR : CR R N M) (hT : CP T N M) (rr pd : Int) : ∀ (r fuel n : Nat) (a v : Int), N - n = r → r < fuel → n ≤ N → v = n → a = sm (cf R T rr pd) n → f_X5_bracketsOf_L5 fuel 54 rr pd a v M = some (sm (cf R T rr pd) N) := by
  have bd : ∀ n, 0 ≤ sm (cf R T rr pd) n ∧ sm (cf R T rr pd) n ≤ n := fun n => sm_bd (fun k => by unfold cf; split <;> omega) n
  intro r
  induction r with
  | zero =>
    intro fuel n a v hr hf hn hv ha
    obtain ⟨fuel, rfl⟩ : ∃ f, fuel = f + 1 := ⟨fuel - 1, by omega⟩
    have : n = N := by omega
    subst this
    rw [f_X5_bracketsOf_L5, hR.1, if_pos (by omega), ha]
  | succ r ih =>
    intro fuel n a v hr hf hn hv ha
    obtain ⟨fuel, rfl⟩ : ∃ f, fuel = f + 1 := ⟨fuel - 1, by omega⟩
    subst hv
    have b := bd n
    have e : sm (cf R T rr pd) (n + 1) = sm (cf R T rr pd) n + cf R T rr pd n := rfl
    rw [f_X5_bracketsOf_L5, hR.1, if_neg (by omega), roleAt_at hN hR (by omega)]
    simp only [Option.bind_some, lt1_e]
    rw [w32_of (i := (n : Int) + 1) (by omega) (by omega), w32_of (i := a + 1) (by omega) (by omega)]
    have nx := fun a' (ha' : a' = sm (cf R T rr pd) (n + 1)) => ih fuel (n + 1) a' ((n : Int) + 1) (by omega) (by omega) (by omega) (by omega) ha'
    by_cases hr' : R n = rr
    · rw [if_pos hr']
      by_cases hp : pd = 0
      · rw [if_pos hp]
        exact nx _ (by rw [e, cf_1 ⟨hr', Or.inl hp⟩]; omega)
      · rw [if_neg hp, partnerOf_at hN hT (by omega)]
        simp only [Option.bind_some]
        by_cases ht : T n = -1
        · rw [if_pos ht]
          exact nx _ (by rw [e, cf_0 (fun c => c.2.elim hp (fun x => x ht))]; omega)
        · rw [if_neg ht]
          exact nx _ (by rw [e, cf_1 ⟨hr', Or.inr ht⟩]; omega)
    · rw [if_neg hr']
      exact nx _ (by rw [e, cf_0 (fun c => hr' c.1)]; omega)
theorem m_count_L {R T : Nat → Int} {N : Nat} {M : Mem} (h : MB R T N M) (kd w : Int) (hkd : 0 ≤ kd ∧ kd ≤ 4) (hw : 0 ≤ w ∧ w ≤ 2) (rr pd : Int) (hrr : rr = (if w = 1 then 2 * kd + 1 else 2 * kd)) (hpd : pd = (if w = 2 then 1 else 0)) : ∀ n : Nat, n ≤ N → ∀ (fuel : Nat) (a v : Int), N - n < fuel → v = nb R n → a = sm (cf R T rr pd) n → f_X10_count_L46 fuel kd w a v M = some (sm (cf R T rr pd) N, M) := by
  have hN := h.1
  have bN := nb_bd R N
  have hA := h.2.2.2.1
  have bd : ∀ n, 0 ≤ sm (cf R T rr pd) n ∧ sm (cf R T rr pd) n ≤ n := fun n => sm_bd (fun k => by unfold cf; split <;> omega) n
  have rr0 : 0 ≤ rr := by rw [hrr]; split <;> omega
  refine byPl R N ?_ (fun n hn hr C => ?_) (fun n hn hr C => ?_)
  · intro fuel a v hf hv ha
    obtain ⟨fuel, rfl⟩ : ∃ f, fuel = f + 1 := ⟨fuel - 1, by omega⟩
    rw [f_X10_count_L46, if_pos (by rw [hA.1]; omega), ha]
  · intro fuel a v hf hv ha
    have e : sm (cf R T rr pd) (n + 1) = sm (cf R T rr pd) n + cf R T rr pd n := rfl
    exact C fuel a v (by omega) (by rw [nb_s0 hr]; exact hv) (by rw [e, cf_0 (fun c => by omega)]; omega)
  · intro fuel a v hf hv ha
    obtain ⟨fuel, rfl⟩ : ∃ f, fuel = f + 1 := ⟨fuel - 1, by omega⟩
    have b := nb_bd R n
    have l := nb_lt hn hr
    have bs := bd n
    have rn := h.2.1 n
    subst hv
    have e : sm (cf R T rr pd) (n + 1) = sm (cf R T rr pd) n + cf R T rr pd n := rfl
    have an := hA.2 n hn hr
    have y : R n = rr → (pd = 0 ∨ T n ≠ -1) → f_X10_count_L46 fuel kd w (a + 1) (nb R n + 1) M = some (sm (cf R T rr pd) N, M) := fun h1 h2 => C fuel _ _ (by omega) (by rw [nb_s1 hr]) (by rw [e, cf_1 ⟨h1, h2⟩]; omega)
    have z : ¬ (R n = rr ∧ (pd = 0 ∨ T n ≠ -1)) → f_X10_count_L46 fuel kd w a (nb R n + 1) M = some (sm (cf R T rr pd) N, M) := fun h1 => C fuel _ _ (by omega) (by rw [nb_s1 hr]) (by rw [e, cf_0 h1]; omega)
    rw [f_X10_count_L46, if_neg (by rw [hA.1]; omega)]
    simp only [lt1_e]
    rw [w32_of (i := nb R n + 1) (by omega) (by omega), w32_of (i := a + 1) (by omega) (by omega), w32_of (i := a + 0) (by omega) (by omega), Int.add_zero]
    by_cases w0 : w = 0
    · rw [if_neg (by omega)] at hrr hpd
      rw [if_pos w0, if_pos (by omega), an.2.1, an.2.2]
      by_cases hk : R n / 2 = kd
      · rw [if_pos hk]
        by_cases ho : 1 - R n % 2 = 0
        · rw [if_pos ho]; exact z (fun c => by omega)
        · rw [if_neg ho]; exact y (by omega) (Or.inl hpd)
      · rw [if_neg hk]; exact z (fun c => by omega)
    · rw [if_neg w0]
      by_cases w1 : w = 1
      · rw [if_pos w1] at hrr
        rw [if_neg (by omega)] at hpd
        rw [if_pos w1, if_pos (by omega), an.2.1, an.2.2]
        by_cases ho : 1 - R n % 2 = 0
        · rw [if_pos ho]
          by_cases hk : R n / 2 = kd
          · rw [if_pos hk]; exact y (by omega) (Or.inl hpd)
          · rw [if_neg hk]; exact z (fun c => by omega)
        · rw [if_neg ho]
          by_cases hk : R n / 2 = kd
          · rw [if_pos hk]; exact z (fun c => by omega)
          · rw [if_neg hk]; exact z (fun c => by omega)
      · rw [if_neg w1] at hrr
        rw [if_pos (by omega)] at hpd
        rw [if_neg w1, isPair_at h hn hr]
        simp only [Option.bind_some]
        rw [if_pos (by omega), an.2.1]
        unfold opf
        by_cases hk : R n / 2 = kd
        · rw [if_pos hk]
          by_cases ho : (n : Int) < T n
          · rw [if_pos ho, if_neg (by decide)]
            obtain ⟨q, e1, e2, e3, e4, e5⟩ := h.2.2.1.mate (p := n) (by omega)
            have k := h.2.2.1.2.2.1 n q e1 (by omega)
            exact y (by omega) (Or.inr (by omega))
          · rw [if_neg ho, if_pos rfl]
            refine z (fun c => ?_)
            have ht : T n ≠ -1 := c.2.elim (fun x => by omega) (fun x => x)
            obtain ⟨q, e1, e2, e3, e4, e5⟩ := h.2.2.1.mate ht
            have k := h.2.2.1.2.2.1 q n e2 (by omega)
            omega
        · rw [if_neg hk]
          exact z (fun c => by omega)
def countA (T : Tx) (G : Sn) (kd w : Int) : Int := sm (cf (Rof G.1 T.1) (Pt G.1 T.1) (if w = 1 then 2 * kd + 1 else 2 * kd) (if w = 2 then 1 else 0)) (Nn T.1)
theorem askKind_y {G : Sn} {M : Mem} (h : CSg G M) {v : Int} (hv : 0 ≤ v ∧ v < G.2.1) : f_X9_askKind v M = some (0, 0, M) := by
  unfold f_X9_askKind f_X7_hasKind
  rw [h.2.1, if_neg (by omega), if_neg (by omega)]
  rfl
theorem askKind_n {G : Sn} {M : Mem} (h : CSg G M) {v : Int} (hv : ¬ (0 ≤ v ∧ v < G.2.1)) : f_X9_askKind v M = some (1, 0, M) := by
  unfold f_X9_askKind f_X7_hasKind
  rw [h.2.1]
  by_cases h0 : v < 0
  · rw [if_pos h0]; rfl
  · rw [if_neg h0, if_pos (by omega)]; rfl
theorem m_noKind_y {G : Sn} {M : Mem} (hG : WG G) (h : MSg G M) (h0 : M 84 0 = 0) {v : Int} (hv : 0 ≤ v ∧ v < G.2.1) : Ok (f_X10_noKind v M) (fun p => p = (0, M)) := by
  have := hG.2.2.2.1
  unfold f_X10_noKind
  rw [h.2.1, w32_of (by omega) (by omega)]
  refine .bind (.val (isIn_y M (by omega))) (fun z hz => .ifF (by omega) (.bind (.val (throws_no 1 h0)) (fun p hp => ?_)))
  subst hp
  exact .ifT (Or.inl rfl) (.ret rfl)
theorem m_noKind_n {T : Tx} {G : Sn} {B : Bx} {M : Mem} (hG : WG G) (h : MoI T G B M) (h0 : M 84 0 = 0) {v : Int} (hv : ¬ (0 ≤ v ∧ v < G.2.1)) : Ok (f_X10_noKind v M) (fun p => p.1 = 1 ∧ p.2 84 0 = 1 ∧ MoI T G B p.2 ∧ FrM M p.2) := by
  have := hG.2.2.2.1
  have := hG.2.2.1
  unfold f_X10_noKind
  rw [h.2.2.2.1.2.1, w32_of (by omega) (by omega)]
  refine .bind (.val (isIn_n M (by omega))) (fun z hz => .ifT hz (.bind (throws_yes 1 (by decide) h0) (fun p ⟨p1, p2⟩ => .ifT (Or.inr p1) (.ret ?_))))
  obtain ⟨c1, c2, c3⟩ := h.put0 p2
  exact ⟨p1, c3, c1, c2⟩
theorem c_count {T : Tx} {G : Sn} {B : Bx} {M : Mem} (hW : WT T) (hG : WG G) (h : CI T G B M) {kd w : Int} (hk : 0 ≤ kd ∧ kd < G.2.1) (hw : 0 ≤ w ∧ w ≤ 2) : Ok (f_X9_count kd w M) (fun r => r.1 = 0 ∧ (0 = 0 → r.2.1 = countA T G kd w) ∧ CI T G B r.2.2 ∧ FrC M r.2.2) := by
  have hN := Nn_is hW.1
  have := hG.2.2.2.1
  unfold f_X9_count
  refine .bind (.val (askKind_y h.2.2.2.1 hk)) (fun z hz => ?_)
  subst hz
  refine .ifT rfl ?_
  rw [w32_of (i := 2 * kd) (by omega) (by omega), w32_of (i := 2 * kd + 1) (by omega) (by omega)]
  have hw2 : w = 0 ∨ w = 1 ∨ w = 2 := by omega
  rcases hw2 with rfl | rfl | rfl
  · refine .ifT rfl (.bind (c_readNow hW h) (fun M1 ⟨r1, r2, r3, r4, r5⟩ => .bind (.val (c_count_L hN.2 r1.cr r1.cp (2 * kd) 0 (Nn T.1) 4096 0 0 0 (by omega) (by omega) (by omega) rfl rfl)) (fun q hq => .ret ⟨rfl, fun _ => hq, r3, r4⟩)))
  · refine .ifF (by decide) (.ifT rfl (.bind (c_readNow hW h) (fun M1 ⟨r1, r2, r3, r4, r5⟩ => .bind (.val (c_count_L hN.2 r1.cr r1.cp (2 * kd + 1) 0 (Nn T.1) 4096 0 0 0 (by omega) (by omega) (by omega) rfl rfl)) (fun q hq => .ret ⟨rfl, fun _ => hq, r3, r4⟩))))
  · refine .ifF (by decide) (.ifF (by decide) (.ifT rfl (.bind (c_readNow hW h) (fun M1 ⟨r1, r2, r3, r4, r5⟩ => .bind (.val (c_count_L hN.2 r1.cr r1.cp (2 * kd) 1 (Nn T.1) 4096 0 0 0 (by omega) (by omega) (by omega) rfl rfl)) (fun q hq => .ret ⟨rfl, fun _ => hq, r3, r4⟩)))))
theorem law_10_ok {T : Tx} {G : Sn} {B : Bx} {M : Mem} (v1 v2 : Int) (hW : WT T) (hG : WG G) (hC : CI T G B M) (hM : MoI T G B M) : Ok (f_law_10 v1 v2 M) (fun M' => CI T G B M' ∧ MoI T G B M') := by
  have hN := Nn_is hW.1
  have g4 := hG.2.2.2.1
  unfold f_law_10 f_L_count
  by_cases hk : 0 ≤ v1 ∧ v1 < G.2.1
  · by_cases hw : 0 ≤ v2 ∧ v2 ≤ 2
    · refine lawW 0 0 (countA T G v1 v2) hM (c_count hW hG hC hk hw) hW (fun _ _ => rfl) (by decide) (fun M1 h1 => ?_)
      unfold f_X10_count
      refine .put fun M2 e2 => ?_
      obtain ⟨a1, a2, a3⟩ := h1.put0 e2
      refine .bind (m_noKind_y hG a1.2.2.2.1 a3 hk) (fun p hp => ?_)
      subst hp
      refine .ifT rfl (.bind (.val (isIn_y M2 hw)) (fun z hz => .ifF (by omega) (.bind (.val (throws_no 2 a3)) (fun p hp => ?_))))
      subst hp
      refine .ifT rfl (.bind (m_find hW hG a1) (fun M3 ⟨b1, b2, b3, b4, b5⟩ => ?_))
      exact .eq (m_count_L b1.1 v1 v2 (by omega) hw _ _ rfl rfl 0 (by omega) 4096 0 0 (by omega) rfl rfl) (.ret ⟨b4.trans a3, fun _ => rfl, b2, a2.trans b3⟩)
    · refine lawW 2 2 0 hM ?_ hW (fun _ _ => rfl) (by decide) (fun M1 h1 => ?_)
      · unfold f_X9_count
        refine .bind (.val (askKind_y hC.2.2.2.1 hk)) (fun z hz => ?_)
        subst hz
        exact .ifT rfl (.ifF (by omega) (.ifF (by omega) (.ifF (by omega) (.ret ⟨rfl, fun h => absurd h (by decide), hC, FrC.rf⟩))))
      · unfold f_X10_count
        refine .put fun M2 e2 => ?_
        obtain ⟨a1, a2, a3⟩ := h1.put0 e2
        refine .bind (m_noKind_y hG a1.2.2.2.1 a3 hk) (fun p hp => ?_)
        subst hp
        refine .ifT rfl (.bind (.val (isIn_n M2 hw)) (fun z hz => .ifT hz (.bind (throws_yes 2 (by decide) a3) (fun p ⟨p1, p2⟩ => .ifF (by omega) (.ret ?_)))))
        obtain ⟨c1, c2, c3⟩ := a1.put0 p2
        exact ⟨c3, fun h => absurd h (by decide), c1, a2.trans c2⟩
  · refine lawW 1 1 0 hM ?_ hW (fun _ _ => rfl) (by decide) (fun M1 h1 => ?_)
    · unfold f_X9_count
      refine .bind (.val (askKind_n hC.2.2.2.1 hk)) (fun z hz => ?_)
      subst hz
      exact .ifF (by show ¬ (1 : Nat) = 0; decide) (.ret ⟨rfl, fun h => absurd h (by decide), hC, FrC.rf⟩)
    · unfold f_X10_count
      refine .put fun M2 e2 => ?_
      obtain ⟨a1, a2, a3⟩ := h1.put0 e2
      exact .bind (m_noKind_n hG a1 a3 hk) (fun p ⟨p1, p2, p3, p4⟩ => .ifF (by omega) (.ret ⟨p2, fun h => absurd h (by decide), p3, a2.trans p4⟩))
