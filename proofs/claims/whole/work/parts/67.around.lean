/-! ===== around, within, beside ===== -/
theorem c_ar_L {T : Nat → Int} {N : Nat} (hN : N ≤ 240) {M : Mem} (hT : CP T N M) (v : Int) : ∀ (n fuel : Nat) (k p : Int), n < fuel → n ≤ N → (n : Int) ≤ v → p = (n : Int) - 1 → inR k → f_X5_pairAround_L7 fuel 54 v k p M = some (fd (arf T v) n k) := by
  intro n
  induction n with
  | zero =>
    intro fuel k p hf hn hnv hp hk
    obtain ⟨fuel, rfl⟩ : ∃ f, fuel = f + 1 := ⟨fuel - 1, by omega⟩
    rw [f_X5_pairAround_L7, if_pos (by omega)]
    rfl
  | succ n ih =>
    intro fuel k p hf hn hnv hp hk
    obtain ⟨fuel, rfl⟩ : ∃ f, fuel = f + 1 := ⟨fuel - 1, by omega⟩
    have hp2 : p = (n : Int) := by omega
    subst hp2
    have k1 := hk.1
    have k2 := hk.2
    rw [f_X5_pairAround_L7, if_neg (by omega)]
    by_cases hneg : k < 0
    · rw [if_pos hneg, fd_neg _ _ _ hneg]
    · rw [if_neg hneg, partnerOf_at hN hT (by omega)]
      simp only [Option.bind_some, lt1_e]
      rw [w32_of (i := (n : Int) + -1) (by omega) (by omega)]
      have nx := fun k' (hk' : inR k') => ih fuel k' ((n : Int) + -1) (by omega) (by omega) (by omega) (by omega) hk'
      by_cases hc : T n ≤ v
      · rw [if_pos hc, nx k hk, fd_0 (by unfold arf; rw [if_neg (by omega)])]
      · rw [if_neg hc, fd_1 (by unfold arf; rw [if_pos (by omega)]; decide)]
        by_cases hz : k = 0
        · rw [if_pos hz, if_pos hz]
        · rw [if_neg hz, if_neg hz, w32_of (i := k + -1) (by omega) (by omega), nx (k + -1) ⟨by omega, by omega⟩, show k + -1 = k - 1 by omega]
theorem m_ar_L {R T : Nat → Int} {N : Nat} {M : Mem} (h : MB R T N M) (v : Int) : ∀ n : Nat, n ≤ N → ∀ (fuel : Nat) (k p : Int), n < fuel → p = nb R n - 1 → inR k → f_X10_around_L20 fuel v k p M = some (fd (arf T v) n k, M) := by
  have hN := h.1
  have bN := nb_bd R N
  have hA := h.2.2.2.1
  refine byUp R N ?_ (fun n hn hr C => ?_) (fun n hn hr C => ?_)
  · intro fuel k p hf hp hk
    obtain ⟨fuel, rfl⟩ : ∃ f, fuel = f + 1 := ⟨fuel - 1, by omega⟩
    have z : nb R 0 = 0 := rfl
    rw [f_X10_around_L20, if_pos (by omega)]
    rfl
  · intro fuel k p hf hp hk
    rw [C fuel k p (by omega) (by rw [nb_s0 hr] at hp; exact hp) hk, fd_0 (arf_no h.2.2.1 h.2.1 hr v)]
  · intro fuel k p hf hp hk
    obtain ⟨fuel, rfl⟩ : ∃ f, fuel = f + 1 := ⟨fuel - 1, by omega⟩
    have bb := nb_bd R n
    have l := nb_lt hn hr
    rw [nb_s1 hr] at hp
    have hp2 : p = nb R n := by omega
    subst hp2
    rw [f_X10_around_L20, if_neg (by omega), isAround_at h hn hr]
    simp only [Option.bind_some, lt1_e]
    rw [w32_of (i := nb R n + -1) (by omega) (by omega), (hA.2 n hn hr).1]
    have nx := fun k' (hk' : inR k') => C fuel k' (nb R n + -1) (by omega) (by omega) hk'
    by_cases hz : arf T v n = 0
    · rw [if_pos hz, nx k hk, fd_0 hz]
    · rw [if_neg hz, fd_1 hz]
      by_cases hk0 : k = 0
      · rw [if_pos hk0, if_pos hk0, if_pos (by omega)]
      · rw [if_neg hk0, if_neg hk0, show k + -1 = k - 1 by omega, nx _ inR_pred, fd_wrap _ (by omega) hk]
def aroundA (T : Tx) (G : Sn) (p : Nat) (k : Int) : Int := fd (arf (Pt G.1 T.1) p) (Nn T.1) k
theorem law_6_ok {T : Tx} {G : Sn} {B : Bx} {M : Mem} (v1 v2 : Int) (i2 : inR v2) (hW : WT T) (hG : WG G) (hC : CI T G B M) (hM : MoI T G B M) : Ok (f_law_6 v1 v2 M) (fun M' => CI T G B M' ∧ MoI T G B M') := by
  have hN := Nn_is hW.1
  unfold f_law_6 f_L_around
  by_cases hp : 0 ≤ v1 ∧ v1 < T.1.len
  · obtain ⟨p, rfl, hp2⟩ := at_place hW.1 hp
    refine lawW 0 0 (aroundA T G p v2) hM ?_ hW (fun _ _ => rfl) (by decide) (fun M1 h1 => ?_)
    · unfold f_X9_around
      refine .bind (.val (askByte_y hC.1 hp)) (fun z hz => ?_)
      subst hz
      refine .ifT rfl (.bind (c_readNow hW hC) (fun M1 ⟨r1, r2, r3, r4, r5⟩ => .bind (Q := fun q => q = aroundA T G p v2) ?_ (fun q hq => .ret ⟨rfl, fun _ => hq, r3, r4⟩)))
      unfold f_X5_pairAround
      refine .let fun u eu => ?_
      rw [w32_of (by omega) (by omega)] at eu
      refine .eq (c_ar_L hN.2 r1.cp p p 4096 v2 u (by omega) (by omega) (by omega) eu i2) (.ret ?_)
      unfold aroundA
      exact (fd_skip _ (Nn T.1) p v2 (by omega) (fun q q0 q1 => by unfold arf; rw [if_neg (by omega)])).symm
    · unfold f_X10_around
      refine .bind (m_noPlace hW hG h1 p) (fun z ⟨b0, b1, b2, b3, b4⟩ => ?_)
      rw [if_pos hp] at b0 b1
      have bs := nb_bd (Rof G.1 T.1) (Nn T.1)
      rw [b2.1.2.2.2.1.1]
      refine .ifT b0 (.let fun u eu => ?_)
      rw [w32_of (by omega) (by omega)] at eu
      exact .eq (m_ar_L b2.1 p (Nn T.1) (Nat.le_refl _) 4096 v2 u (by omega) eu i2) (.ret ⟨b1, fun _ => rfl, b3, b4⟩)
  · refine lawW 1 1 0 hM ?_ hW (fun _ _ => rfl) (by decide) (fun M1 h1 => ?_)
    · unfold f_X9_around
      refine .bind (.val (askByte_n hC.1 hp)) (fun z hz => ?_)
      subst hz
      exact .ifF (by show ¬ (1 : Nat) = 0; decide) (.ret ⟨rfl, fun h => absurd h (by decide), hC, FrC.rf⟩)
    · unfold f_X10_around
      refine .bind (m_noPlace hW hG h1 v1) (fun z ⟨b0, b1, b2, b3, b4⟩ => ?_)
      rw [if_neg hp] at b0 b1
      exact .ifF (by omega) (.ret ⟨b1, fun h => absurd h (by decide), b3, b4⟩)
/-! a pair told by one of its brackets -/
/-- where the pair opens -/
def opn (T : Nat → Int) (p : Nat) : Nat := if T p < p then (T p).toNat else p
theorem opn_is {R T : Nat → Int} {N : Nat} (h : PS R N T) {p : Nat} (hp : T p ≠ -1) : (opn T p : Int) < T (opn T p) ∧ opn T p < N := by
  obtain ⟨q, e1, e2, e3, e4, e5⟩ := h.mate hp
  unfold opn
  by_cases hc : T p < p
  · rw [if_pos hc, e1, Int.toNat_natCast]
    omega
  · rw [if_neg hc]
    omega
theorem openingOf_at {R T : Nat → Int} {N : Nat} (hN : N ≤ 240) (hP : PS R N T) {M : Mem} (h : CP T N M) {p : Nat} (hp : p < N) (ht : T p ≠ -1) : f_X5_openingOf 54 p M = some ((opn T p : Nat) : Int) := by
  obtain ⟨q, e1, e2, e3, e4, e5⟩ := hP.mate ht
  unfold f_X5_openingOf
  rw [isClosing_at hN hP.1 h hp]
  simp only [Option.bind_some]
  unfold opn
  by_cases hc : T p < p
  · have k : clf T p = 1 := by unfold clf; rw [if_pos ⟨by omega, hc⟩]
    rw [k, if_neg (by decide), partnerOf_at hN h hp, if_pos hc]
    exact congrArg some (by omega)
  · have k : clf T p = 0 := by unfold clf; rw [if_neg (fun c => hc c.2)]
    rw [k, if_pos rfl, if_neg hc]
theorem askPaired_ok {T : Tx} {G : Sn} {B : Bx} {M : Mem} (hW : WT T) (h : CI T G B M) {p : Nat} (hp : p < Nn T.1) : Ok (f_X9_askPaired p M) (fun r => r.1 = (if Pt G.1 T.1 p = -1 then 3 else 0) ∧ RV G.1 T.1 r.2.2 ∧ r.2.2 0 16 = 0 ∧ CI T G B r.2.2 ∧ FrC M r.2.2) := by
  have hN := Nn_is hW.1
  unfold f_X9_askPaired
  refine .bind (c_readNow hW h) (fun M1 ⟨r1, r2, r3, r4, r5⟩ => .bind (.val (partnerOf_at hN.2 r1.cp hp)) (fun q hq => ?_))
  subst hq
  refine .ifC (fun hc => .ret ⟨?_, r1, r2, r3, r4⟩) (fun hc => .ret ⟨?_, r1, r2, r3, r4⟩)
  · rw [if_pos hc]
  · rw [if_neg hc]
theorem m_noPair {T : Tx} {G : Sn} {B : Bx} {M : Mem} (hW : WT T) (hG : WG G) (h : MoI T G B M) {p : Nat} (hp : p < Nn T.1) :
    Ok (f_X10_noPair p M) (fun r => r.1 = (if Pt G.1 T.1 p = -1 then 1 else 0) ∧ r.2 84 0 = (if Pt G.1 T.1 p = -1 then 2 else 0) ∧ MF T G r.2 ∧ MoI T G B r.2 ∧ FrM M r.2) := by
  have hN := Nn_is hW.1
  unfold f_X10_noPair
  refine .bind (m_noPlace hW hG h p) (fun z ⟨b0, b1, b2, b3, b4⟩ => ?_)
  rw [if_pos (by omega)] at b0 b1
  refine .ifT b0 (.bind (.val (bracketAt_at b2.1 hp)) (fun u hu => ?_))
  subst hu
  refine .bind (.val (hasPartner_at b2.1 hp)) (fun y hy => ?_)
  by_cases ht : Pt G.1 T.1 p = -1
  · rw [if_pos ht] at hy
    rw [if_pos ht, if_pos ht]
    refine .ifT hy (.bind (throws_yes 2 (by decide) b1) (fun w ⟨w1, w2⟩ => .ifF (by omega) (.ret ?_)))
    obtain ⟨c1, c2, c3⟩ := b3.put0 w2
    refine ⟨rfl, c3, ⟨?_, fun q hq => by rw [w2, if_neg (by omega)]; exact b2.2 q hq⟩, c1, b4.trans c2⟩
    obtain ⟨z1, z2, z3, z4, z5⟩ := b2.1
    exact ⟨z1, z2, z3, z4.same (fun c i hc => by rw [w2, if_neg (by omega)]), fun q hq hr => by rw [w2, if_neg (by omega)]; exact z5 q hq hr⟩
  · rw [if_neg ht] at hy
    rw [if_neg ht, if_neg ht]
    refine .ifF (by omega) (.bind (.val (throws_no 2 b1)) (fun w hw => ?_))
    subst hw
    exact .ifT rfl (.ret ⟨rfl, b1, b2, b3, b4⟩)
theorem pairAt_at {R T : Nat → Int} {N : Nat} {M : Mem} (h : MB R T N M) {p : Nat} (hp : p < N) (ht : T p ≠ -1) : f_X10_pairAt p M = some (nb R (opn T p)) := by
  have hN := h.1
  have bN := nb_bd R N
  have nr : R p ≠ -1 := fun x => ht (h.2.2.1.none h.2.1 x)
  obtain ⟨q, e1, e2, e3, e4, e5⟩ := h.2.2.1.mate ht
  have b := bn_bd R hp nr
  have rp := h.2.1 p
  unfold f_X10_pairAt
  rw [bracketAt_at h hp]
  simp only [Option.bind_some]
  rw [if_pos (by omega), b.2.2, (h.2.2.2.1.2 p hp nr).2.2, h.2.2.2.2 p hp nr]
  unfold opn
  by_cases hc : T p < p
  · have k := h.2.2.1.2.2.1 q p e2 (by omega)
    rw [if_pos (by omega), if_pos hc, e1, enc_is, Int.toNat_natCast]
  · have k := h.2.2.1.2.2.1 p q e1 (by omega)
    rw [if_neg (by omega), if_neg hc]
/-! within -/
def wif (T : Nat → Int) (N : Nat) (e : Int) (p : Nat) : Int := if (p : Int) < T p ∧ ou T p N = e then 1 else 0
theorem wif_1 {T : Nat → Int} {N : Nat} {e : Int} {p : Nat} (h : (p : Int) < T p ∧ ou T p N = e) : wif T N e p ≠ 0 := by unfold wif; rw [if_pos h]; decide
theorem wif_0 {T : Nat → Int} {N : Nat} {e : Int} {p : Nat} (h : ¬ ((p : Int) < T p ∧ ou T p N = e)) : wif T N e p = 0 := by unfold wif; rw [if_neg h]
theorem c_wi_L {ρ : Int → Int} {P : Pg} {R : Nat → Int} (hN : Nn P ≤ 240) (hP : PS R (Nn P) (Pt ρ P)) {M : Mem} (h : RV ρ P M) {o c : Nat} (ho : (o : Int) < Pt ρ P o) (hc : Pt ρ P o = c) (hcN : c < Nn P) : ∀ (r fuel n : Nat) (k v : Int), c - n = r → r < fuel → o < n → n ≤ c → v = n → inR k → f_X5_pairWithin_L7 fuel 54 o k v M = some (fu (wif (Pt ρ P) (Nn P) o) r n k) := by
  have oN : o < Nn P := by omega
  intro r
  induction r with
  | zero =>
    intro fuel n k v hr hf hon hn hv hk
    obtain ⟨fuel, rfl⟩ : ∃ f, fuel = f + 1 := ⟨fuel - 1, by omega⟩
    rw [f_X5_pairWithin_L7, partnerOf_at hN h.cp oN]
    simp only [Option.bind_some]
    rw [if_pos (by omega)]
    rfl
  | succ r ih =>
    intro fuel n k v hr hf hon hn hv hk
    obtain ⟨fuel, rfl⟩ : ∃ f, fuel = f + 1 := ⟨fuel - 1, by omega⟩
    subst hv
    have k1 := hk.1
    have k2 := hk.2
    have nN : n < Nn P := by omega
    have b := ar_bd (Pt ρ P) (Nn P) o
    rw [f_X5_pairWithin_L7, partnerOf_at hN h.cp oN]
    simp only [Option.bind_some, lt1_e]
    rw [if_neg (by omega), w32_of (i := (n : Int) + 1) (by omega) (by omega)]
    by_cases hneg : k < 0
    · rw [if_pos hneg, fu_neg _ _ _ _ hneg]
    · rw [if_neg hneg, isOpening_at hN h.cp nN]
      simp only [Option.bind_some]
      have nx := fun k' (hk' : inR k') => ih fuel (n + 1) k' ((n : Int) + 1) (by omega) (by omega) (by omega) (by omega) (by omega) hk'
      unfold opf
      by_cases hop : (n : Int) < Pt ρ P n
      · rw [if_pos hop, if_neg (by decide), depthOf_at hN h nN, depthOf_at hN h oN]
        simp only [Option.bind_some]
        rw [w32_of (i := ar (Pt ρ P) (Nn P) o + 1) (by omega) (by omega)]
        have ain := ar_in hP ho n n rfl hon (by omega)
        by_cases hd : ar (Pt ρ P) (Nn P) n = ar (Pt ρ P) (Nn P) o + 1
        · rw [if_pos hd, fu_1 (wif_1 ⟨hop, ain.2.mp hd⟩)]
          by_cases hz : k = 0
          · rw [if_pos hz, if_pos hz]
          · rw [if_neg hz, if_neg hz, w32_of (i := k + -1) (by omega) (by omega), nx (k + -1) ⟨by omega, by omega⟩, show k + -1 = k - 1 by omega]
        · rw [if_neg hd, nx k hk, fu_0 (wif_0 (fun c => hd (ain.2.mpr c.2)))]
      · rw [if_neg hop, if_pos rfl, nx k hk, fu_0 (wif_0 (fun c => hop c.1))]
/-- numbers of pairs are told apart -/
theorem enc_inj {R T : Nat → Int} {N : Nat} (hP : PS R N T) {v : Int} {x : Int} (hx : x = -1 ∨ ∃ o : Nat, x = o ∧ R o ≠ -1 ∧ o < N) : enc R (ou T v N) = enc R x ↔ ou T v N = x := by
  constructor
  · intro h
    rcases ou_is T v N with ⟨a, _⟩ | ⟨e, a, b, c, _⟩
    · rcases hx with hx | ⟨o, hx, ro, _⟩
      · rw [a, hx]
      · rw [a, enc_no, hx, enc_is] at h
        have := nb_bd R o
        omega
    · have er : R e ≠ -1 := (hP.2.2.1 e (T e).toNat (by omega) (by omega)).1
      rcases hx with hx | ⟨o, hx, ro, _⟩
      · rw [a, hx, enc_no, enc_is] at h
        have := nb_bd R e
        omega
      · rw [a, hx, enc_is, enc_is] at h
        rw [a, hx, nb_inj er ro h]
  · intro h; rw [h]
theorem m_wi_L {R T : Nat → Int} {N : Nat} {M : Mem} (h : MB R T N M) {o : Nat} (oN : o < N) (ro' : R o ≠ -1) : ∀ n : Nat, n ≤ N → ∀ (fuel : Nat) (k v : Int), N - n < fuel → v = nb R n → inR k → f_X10_within_L22 fuel (nb R o) k v M = some (fu (wif T N o) (N - n) n k, M) := by
  have hN := h.1
  have bN := nb_bd R N
  have hA := h.2.2.2.1
  refine byPl R N ?_ (fun n hn hr C => ?_) (fun n hn hr C => ?_)
  · intro fuel k v hf hv hk
    obtain ⟨fuel, rfl⟩ : ∃ f, fuel = f + 1 := ⟨fuel - 1, by omega⟩
    rw [f_X10_within_L22, if_pos (by rw [hA.1]; omega), Nat.sub_self]
    rfl
  · intro fuel k v hf hv hk
    have t1 := h.2.2.1.none h.2.1 hr
    rw [C fuel k v (by omega) (by rw [nb_s0 hr]; exact hv) hk, show N - n = N - (n + 1) + 1 by omega, fu_0 (wif_0 (fun c => by omega))]
  · intro fuel k v hf hv hk
    obtain ⟨fuel, rfl⟩ : ∃ f, fuel = f + 1 := ⟨fuel - 1, by omega⟩
    have b := nb_bd R n
    have l := nb_lt hn hr
    subst hv
    rw [f_X10_within_L22, if_neg (by rw [hA.1]; omega), isPair_at h hn hr, show N - n = N - (n + 1) + 1 by omega]
    simp only [Option.bind_some, lt1_e]
    rw [w32_of (i := nb R n + 1) (by omega) (by omega)]
    have nx := fun k' (hk' : inR k') => C fuel k' (nb R n + 1) (by omega) (by rw [nb_s1 hr]) hk'
    unfold opf
    by_cases hop : (n : Int) < T n
    · rw [if_pos hop, if_neg (by decide), if_pos (by omega), (hA.2 n hn hr).1, outer_at h]
      simp only [Option.bind_some]
      have inj := enc_inj h.2.2.1 (v := (n : Int)) (x := (o : Int)) (Or.inr ⟨o, rfl, ro', oN⟩)
      rw [enc_is] at inj
      by_cases he : enc R (ou T n N) = nb R o
      · rw [if_pos he, fu_1 (wif_1 ⟨hop, inj.mp he⟩)]
        by_cases hz : k = 0
        · rw [if_pos hz, if_pos hz]
        · rw [if_neg hz, if_neg hz, show k + -1 = k - 1 by omega, nx _ inR_pred, fu_wrap _ (by omega) hk]
      · rw [if_neg he, nx k hk, fu_0 (wif_0 (fun c => he (inj.mpr c.2)))]
    · rw [if_neg hop, if_pos rfl, nx k hk, fu_0 (wif_0 (fun c => hop c.1))]
def withinA (T : Tx) (G : Sn) (p : Nat) (k : Int) : Int := fu (wif (Pt G.1 T.1) (Nn T.1) (opn (Pt G.1 T.1) p : Nat)) (Nn T.1) 0 k
/-- what is directly within a pair lies between its brackets -/
theorem wif_in {R T : Nat → Int} {N : Nat} (hP : PS R N T) {o c : Nat} (hc : T o = c) {q : Nat} (h : ¬ (o < q ∧ q < c)) : wif T N o q = 0 := by
  refine wif_0 (fun x => ?_)
  rcases ou_is T q N with ⟨a, _⟩ | ⟨e, a, b, d, _⟩ <;> rw [x.2] at a
  · omega
  · have : e = o := by omega
    subst this
    omega
theorem law_7_ok {T : Tx} {G : Sn} {B : Bx} {M : Mem} (v1 v2 : Int) (i2 : inR v2) (hW : WT T) (hG : WG G) (hC : CI T G B M) (hM : MoI T G B M) : Ok (f_law_7 v1 v2 M) (fun M' => CI T G B M' ∧ MoI T G B M') := by
  have hN := Nn_is hW.1
  unfold f_law_7 f_L_within
  by_cases hp : 0 ≤ v1 ∧ v1 < T.1.len
  · obtain ⟨p, rfl, hp2⟩ := at_place hW.1 hp
    by_cases ht : Pt G.1 T.1 p = -1
    · refine lawW 3 2 0 hM ?_ hW (fun _ _ => rfl) (by decide) (fun M1 h1 => ?_)
      · unfold f_X9_within
        refine .bind (.val (askByte_y hC.1 hp)) (fun z hz => ?_)
        subst hz
        refine .ifT rfl (.bind (askPaired_ok hW hC hp2) (fun r ⟨r0, r1, r2, r3, r4⟩ => ?_))
        rw [if_pos ht] at r0
        exact .ifF (by omega) (.ret ⟨r0, fun h => absurd h (by decide), r3, r4⟩)
      · unfold f_X10_within
        refine .bind (m_noPair hW hG h1 hp2) (fun z ⟨b0, b1, b2, b3, b4⟩ => ?_)
        rw [if_pos ht] at b0 b1
        exact .ifF (by omega) (.ret ⟨b1, fun h => absurd h (by decide), b3, b4⟩)
    · have oi := opn_is (PS_of hG T.1) ht
      obtain ⟨c, e1, e2, e3, e4, e5⟩ := (PS_of hG T.1).mate (p := opn (Pt G.1 T.1) p) (by omega)
      have or' : Rof G.1 T.1 (opn (Pt G.1 T.1) p) ≠ -1 := ((PS_of hG T.1).2.2.1 _ c e1 (by omega)).1
      refine lawW 0 0 (withinA T G p v2) hM ?_ hW (fun _ _ => rfl) (by decide) (fun M1 h1 => ?_)
      · unfold f_X9_within
        refine .bind (.val (askByte_y hC.1 hp)) (fun z hz => ?_)
        subst hz
        refine .ifT rfl (.bind (askPaired_ok hW hC hp2) (fun r ⟨r0, r1, r2, r3, r4⟩ => ?_))
        rw [if_neg ht] at r0
        refine .ifT r0 (.bind (.val (readNow_twice r2)) (fun M2 hM2 => ?_))
        subst hM2
        refine .bind (.val (readNow_twice r2)) (fun M2 hM2 => ?_)
        subst hM2
        refine .bind (.val (openingOf_at hN.2 (PS_of hG T.1) r1.cp hp2 ht)) (fun u hu => ?_)
        subst hu
        refine .bind (Q := fun q => q = withinA T G p v2) ?_ (fun q hq => .ret ⟨rfl, fun _ => hq, r3, r4⟩)
        unfold f_X5_pairWithin
        refine .let fun w ew => ?_
        rw [w32_of (by omega) (by omega)] at ew
        refine .eq (c_wi_L hN.2 (PS_of hG T.1) r1 oi.1 e1 e3 (c - (opn (Pt G.1 T.1) p + 1)) 4096 (opn (Pt G.1 T.1) p + 1) v2 w rfl (by omega) (by omega) (by omega) (by omega) i2) (.ret ?_)
        unfold withinA
        have s1 := fu_skip (wif (Pt G.1 T.1) (Nn T.1) (opn (Pt G.1 T.1) p : Nat)) (Nn T.1 - (opn (Pt G.1 T.1) p + 1)) (opn (Pt G.1 T.1) p + 1) 0 v2 (fun q q0 q1 => wif_in (PS_of hG T.1) e1 (by omega))
        rw [show opn (Pt G.1 T.1) p + 1 + (Nn T.1 - (opn (Pt G.1 T.1) p + 1)) = Nn T.1 by omega, Nat.zero_add] at s1
        have s2 := fu_end (wif (Pt G.1 T.1) (Nn T.1) (opn (Pt G.1 T.1) p : Nat)) (Nn T.1 - c) (c - (opn (Pt G.1 T.1) p + 1)) (opn (Pt G.1 T.1) p + 1) v2 (fun q q0 q1 => wif_in (PS_of hG T.1) e1 (by omega))
        rw [show c - (opn (Pt G.1 T.1) p + 1) + (Nn T.1 - c) = Nn T.1 - (opn (Pt G.1 T.1) p + 1) by omega] at s2
        rw [s1, s2]
      · unfold f_X10_within
        refine .bind (m_noPair hW hG h1 hp2) (fun z ⟨b0, b1, b2, b3, b4⟩ => ?_)
        rw [if_neg ht] at b0 b1
        refine .ifT b0 (.bind (.val (pairAt_at b2.1 hp2 ht)) (fun u hu => ?_))
        subst hu
        exact .eq (m_wi_L b2.1 oi.2 or' 0 (by omega) 4096 v2 0 (by omega) rfl i2) (.ret ⟨b1, fun _ => rfl, b3, b4⟩)
  · refine lawW 1 1 0 hM ?_ hW (fun _ _ => rfl) (by decide) (fun M1 h1 => ?_)
    · unfold f_X9_within
      refine .bind (.val (askByte_n hC.1 hp)) (fun z hz => ?_)
      subst hz
      exact .ifF (by show ¬ (1 : Nat) = 0; decide) (.ret ⟨rfl, fun h => absurd h (by decide), hC, FrC.rf⟩)
    · unfold f_X10_within f_X10_noPair
      refine .bind (Q := fun z => z.1 = 1 ∧ z.2 84 0 = 1 ∧ MoI T G B z.2 ∧ FrM M1 z.2) (.bind (m_noPlace hW hG h1 v1) (fun z ⟨b0, b1, b2, b3, b4⟩ => ?_)) (fun z ⟨b0, b1, b3, b4⟩ => .ifF (by omega) (.ret ⟨b1, fun h => absurd h (by decide), b3, b4⟩))
      rw [if_neg hp] at b0 b1
      exact .ifF (by omega) (.ret ⟨rfl, b1, b3, b4⟩)
