/-! ===== beside ===== -/
theorem sib {R T : Nat → Int} {N : Nat} (hP : PS R N T) {o : Nat} (oN : o < N) {n : Nat} (h : ∀ e : Nat, ou T o N = e → e < n ∧ (n : Int) < T e) : ar T N o ≤ ar T N n ∧ (ar T N n = ar T N o ↔ ou T n N = ou T o N) := by
  rcases ou_is T o N with ⟨a, _⟩ | ⟨e, a, b, c, _⟩
  · have k := (ar_ou hP o).1 a
    have bd := ar_bd T N n
    rcases ou_is T n N with ⟨a2, _⟩ | ⟨e2, a2, _⟩
    · have k2 := (ar_ou hP n).1 a2
      exact ⟨by omega, fun _ => by rw [a, a2], fun _ => by omega⟩
    · have k2 := (ar_ou hP n).2 e2 a2
      have bd2 := ar_bd T N e2
      exact ⟨by omega, fun _ => by omega, fun x => by omega⟩
  · have k := (ar_ou hP o).2 e a
    have hn := h e a
    have i := ar_in hP (o := e) (by omega) n n rfl hn.1 hn.2
    rw [a]
    exact ⟨by omega, fun x => i.2.mp (by omega), fun x => by have := i.2.mpr x; omega⟩
theorem c_bh_L {ρ : Int → Int} {P : Pg} {R : Nat → Int} (hN : Nn P ≤ 240) (hP : PS R (Nn P) (Pt ρ P)) {M : Mem} (h : RV ρ P M) {o : Nat} (oN : o < Nn P) {d : Int} (hd : d = ar (Pt ρ P) (Nn P) o) : ∀ (r fuel n : Nat) (v : Int), Nn P - n = r → r < fuel → o < n → n ≤ Nn P → v = n → (∀ e : Nat, ou (Pt ρ P) o (Nn P) = e → (n : Int) ≤ Pt ρ P e) → f_X5_pairBehind_L14 fuel 54 d v M = some (fu (wif (Pt ρ P) (Nn P) (ou (Pt ρ P) o (Nn P))) r n 0) := by
  subst hd
  intro r
  induction r with
  | zero =>
    intro fuel n v hr hf hon hn hv hin
    obtain ⟨fuel, rfl⟩ : ∃ f, fuel = f + 1 := ⟨fuel - 1, by omega⟩
    rw [f_X5_pairBehind_L14, h.1, if_pos (by omega)]
    rfl
  | succ r ih =>
    intro fuel n v hr hf hon hn hv hin
    obtain ⟨fuel, rfl⟩ : ∃ f, fuel = f + 1 := ⟨fuel - 1, by omega⟩
    subst hv
    have nN : n < Nn P := by omega
    rw [f_X5_pairBehind_L14, h.1, if_neg (by omega), depthOf_at hN h nN]
    simp only [Option.bind_some, lt1_e]
    have eo : ∀ e : Nat, ou (Pt ρ P) o (Nn P) = e → e < o := fun e he => by
      rcases ou_is (Pt ρ P) o (Nn P) with ⟨a, _⟩ | ⟨e', a, b, c, _⟩ <;> omega
    by_cases hx : ∃ e : Nat, ou (Pt ρ P) o (Nn P) = e ∧ (n : Int) = Pt ρ P e
    · obtain ⟨e, he, hne⟩ := hx
      have k := (ar_ou hP o).2 e he
      have dn := (dd_ge hP n hn)
      have mt := hP.2.1 e n hne.symm
      have an : ar (Pt ρ P) (Nn P) n < ar (Pt ρ P) (Nn P) o := by
        rcases ou_is (Pt ρ P) n (Nn P) with ⟨a2, _⟩ | ⟨e2, a2, b2, c2, _⟩
        · have := (ar_ou hP n).1 a2
          have := ar_bd (Pt ρ P) (Nn P) e
          omega
        · have k2 := (ar_ou hP n).2 e2 a2
          have e2e : ¬ e2 < e → False := fun x => by
            by_cases q : e2 = e
            · rw [q] at c2; omega
            · obtain ⟨z, z1, z2, z3, z4, z5⟩ := hP.mate (p := e2) (by omega)
              have := hP.2.2.2 e n e2 z hne.symm (by have := eo e he; omega) z1 (by omega) (by omega) (by omega)
              omega
          have e2e : e2 < e := by
            by_cases q : e2 < e
            · exact q
            · exact (e2e q).elim
          obtain ⟨z, z1, z2, z3, z4, z5⟩ := hP.mate (p := e2) (by omega)
          have i := ar_in hP (o := e2) (by omega) e e rfl e2e (by have := eo e he; omega)
          have := i.1
          omega
      rw [if_pos an]
      refine congrArg some (fu_none _ _ _ _ (fun q q0 q1 => wif_0 (fun x => ?_))).symm
      rcases ou_is (Pt ρ P) q (Nn P) with ⟨a, _⟩ | ⟨e', a, b, c, _⟩
      · rw [x.2] at a; omega
      · rw [x.2] at a
        have : e' = e := by omega
        subst this
        omega
    · have hin2 : ∀ e : Nat, ou (Pt ρ P) o (Nn P) = e → e < n ∧ (n : Int) < Pt ρ P e := fun e he => by
        have := hin e he
        have := eo e he
        refine ⟨by omega, ?_⟩
        by_cases q : (n : Int) = Pt ρ P e
        · exact absurd ⟨e, he, q⟩ hx
        · omega
      have sb := sib hP oN hin2
      rw [if_neg (by omega), isOpening_at hN h.cp nN, w32_of (i := (n : Int) + 1) (by omega) (by omega)]
      simp only [Option.bind_some]
      have nx := ih fuel (n + 1) ((n : Int) + 1) (by omega) (by omega) (by omega) (by omega) (by omega) (fun e he => by have := hin2 e he; omega)
      unfold opf
      by_cases hop : (n : Int) < Pt ρ P n
      · rw [if_pos hop, if_neg (by decide)]
        by_cases hd : ar (Pt ρ P) (Nn P) n = ar (Pt ρ P) (Nn P) o
        · rw [if_pos hd, fu_1 (wif_1 ⟨hop, sb.2.mp hd⟩), if_pos rfl]
        · rw [if_neg hd, nx, fu_0 (wif_0 (fun c => hd (sb.2.mpr c.2)))]
      · rw [if_neg hop, if_pos rfl, nx, fu_0 (wif_0 (fun c => hop c.1))]
theorem c_ah_L {ρ : Int → Int} {P : Pg} {R : Nat → Int} (hN : Nn P ≤ 240) (hP : PS R (Nn P) (Pt ρ P)) {M : Mem} (h : RV ρ P M) {o : Nat} (oN : o < Nn P) {d : Int} (hd : d = ar (Pt ρ P) (Nn P) o) : ∀ (n fuel : Nat) (v : Int), n < fuel → n ≤ o → v = (n : Int) - 1 → (∀ e : Nat, ou (Pt ρ P) o (Nn P) = e → e + 1 ≤ n) → f_X5_pairAhead_L10 fuel 54 d v M = some (fd (wif (Pt ρ P) (Nn P) (ou (Pt ρ P) o (Nn P))) n 0) := by
  subst hd
  intro n
  induction n with
  | zero =>
    intro fuel v hf hn hv hin
    obtain ⟨fuel, rfl⟩ : ∃ f, fuel = f + 1 := ⟨fuel - 1, by omega⟩
    rw [f_X5_pairAhead_L10, if_pos (by omega)]
    rfl
  | succ n ih =>
    intro fuel v hf hn hv hin
    obtain ⟨fuel, rfl⟩ : ∃ f, fuel = f + 1 := ⟨fuel - 1, by omega⟩
    have hv2 : v = (n : Int) := by omega
    subst hv2
    have nN : n < Nn P := by omega
    rw [f_X5_pairAhead_L10, if_neg (by omega), depthOf_at hN h nN]
    simp only [Option.bind_some, lt1_e]
    have eo : ∀ e : Nat, ou (Pt ρ P) o (Nn P) = e → e < o ∧ (o : Int) < Pt ρ P e := fun e he => by
      rcases ou_is (Pt ρ P) o (Nn P) with ⟨a, _⟩ | ⟨e', a, b, c, _⟩
      · omega
      · have : e' = e := by omega
        subst this; omega
    by_cases hx : ou (Pt ρ P) o (Nn P) = n
    · have k := (ar_ou hP o).2 n hx
      rw [if_pos (by omega)]
      rw [fd_skip _ (n + 1) 0 0 (by omega) (fun q q0 q1 => wif_0 (fun x => ?_))]
      · rfl
      · rw [hx] at x
        rcases ou_is (Pt ρ P) q (Nn P) with ⟨a, _⟩ | ⟨e', a, b, c, _⟩ <;> omega
    · have hin2 : ∀ e : Nat, ou (Pt ρ P) o (Nn P) = e → e < n ∧ (n : Int) < Pt ρ P e := fun e he => by
        have := hin e he
        have := eo e he
        refine ⟨?_, by omega⟩
        by_cases q : e = n
        · subst q; exact absurd he hx
        · omega
      have sb := sib hP oN hin2
      rw [if_neg (by omega), isOpening_at hN h.cp nN, w32_of (i := (n : Int) + -1) (by omega) (by omega)]
      simp only [Option.bind_some]
      have nx := ih fuel ((n : Int) + -1) (by omega) (by omega) (by omega) (fun e he => by have := hin2 e he; omega)
      unfold opf
      by_cases hop : (n : Int) < Pt ρ P n
      · rw [if_pos hop, if_neg (by decide)]
        by_cases hd : ar (Pt ρ P) (Nn P) n = ar (Pt ρ P) (Nn P) o
        · rw [if_pos hd, fd_1 (wif_1 ⟨hop, sb.2.mp hd⟩), if_pos rfl]
        · rw [if_neg hd, nx, fd_0 (wif_0 (fun c => hd (sb.2.mpr c.2)))]
      · rw [if_neg hop, if_pos rfl, nx, fd_0 (wif_0 (fun c => hop c.1))]
theorem ou_br {R T : Nat → Int} {N : Nat} (hP : PS R N T) (v : Int) : ou T v N = -1 ∨ ∃ e : Nat, ou T v N = e ∧ R e ≠ -1 ∧ e < N := by
  rcases ou_is T v N with ⟨a, _⟩ | ⟨e, a, b, c, _⟩
  · exact Or.inl a
  · exact Or.inr ⟨e, a, (hP.2.2.1 e (T e).toNat (by omega) (by omega)).1, b⟩
theorem m_bs_up {R T : Nat → Int} {N : Nat} {M : Mem} (h : MB R T N M) (v w : Int) (hw : ¬ w = 0) : ∀ n : Nat, n ≤ N → ∀ (fuel : Nat) (p : Int), N - n < fuel → p = nb R n → f_X10_beside_L43 fuel w (enc R (ou T v N)) p M = some (fu (wif T N (ou T v N)) (N - n) n 0, M) := by
  have hN := h.1
  have bN := nb_bd R N
  have hA := h.2.2.2.1
  refine byPl R N ?_ (fun n hn hr C => ?_) (fun n hn hr C => ?_)
  · intro fuel p hf hp
    obtain ⟨fuel, rfl⟩ : ∃ f, fuel = f + 1 := ⟨fuel - 1, by omega⟩
    rw [f_X10_beside_L43, hA.1, w32_of (i := nb R N - 1) (by omega) (by omega), isIn_n M (by omega), Nat.sub_self]
    rfl
  · intro fuel p hf hp
    have t1 := h.2.2.1.none h.2.1 hr
    rw [C fuel p (by omega) (by rw [nb_s0 hr]; exact hp), show N - n = N - (n + 1) + 1 by omega, fu_0 (wif_0 (fun c => by omega))]
  · intro fuel p hf hp
    obtain ⟨fuel, rfl⟩ : ∃ f, fuel = f + 1 := ⟨fuel - 1, by omega⟩
    have b := nb_bd R n
    have l := nb_lt hn hr
    subst hp
    rw [f_X10_beside_L43, hA.1, w32_of (i := nb R N - 1) (by omega) (by omega), isIn_y M (by omega), show N - n = N - (n + 1) + 1 by omega]
    simp only [Option.bind_some, lt1_e]
    rw [if_neg (by decide), isPair_at h hn hr, w32_of (i := nb R n + 1) (by omega) (by omega)]
    simp only [Option.bind_some]
    have nx := C fuel (nb R n + 1) (by omega) (by rw [nb_s1 hr])
    unfold opf
    by_cases hop : (n : Int) < T n
    · rw [if_pos hop, if_neg (by decide), if_pos (by omega), (hA.2 n hn hr).1, outer_at h]
      simp only [Option.bind_some]
      have inj := enc_inj h.2.2.1 (v := (n : Int)) (x := ou T v N) (ou_br h.2.2.1 v)
      by_cases he : enc R (ou T n N) = enc R (ou T v N)
      · rw [if_pos he, fu_1 (wif_1 ⟨hop, inj.mp he⟩), if_pos rfl]
      · rw [if_neg he, if_neg hw, nx, fu_0 (wif_0 (fun c => he (inj.mpr c.2)))]
    · rw [if_neg hop, if_pos rfl, if_neg hw, nx, fu_0 (wif_0 (fun c => hop c.1))]
theorem m_bs_dn {R T : Nat → Int} {N : Nat} {M : Mem} (h : MB R T N M) (v w : Int) (hw : w = 0) : ∀ n : Nat, n ≤ N → ∀ (fuel : Nat) (p : Int), n < fuel → p = nb R n - 1 → f_X10_beside_L43 fuel w (enc R (ou T v N)) p M = some (fd (wif T N (ou T v N)) n 0, M) := by
  have hN := h.1
  have bN := nb_bd R N
  have hA := h.2.2.2.1
  refine byUp R N ?_ (fun n hn hr C => ?_) (fun n hn hr C => ?_)
  · intro fuel p hf hp
    obtain ⟨fuel, rfl⟩ : ∃ f, fuel = f + 1 := ⟨fuel - 1, by omega⟩
    have z : nb R 0 = 0 := rfl
    rw [f_X10_beside_L43, hA.1, w32_of (i := nb R N - 1) (by omega) (by omega), isIn_n M (by omega)]
    rfl
  · intro fuel p hf hp
    have t1 := h.2.2.1.none h.2.1 hr
    rw [C fuel p (by omega) (by rw [nb_s0 hr] at hp; exact hp), fd_0 (wif_0 (fun c => by omega))]
  · intro fuel p hf hp
    obtain ⟨fuel, rfl⟩ : ∃ f, fuel = f + 1 := ⟨fuel - 1, by omega⟩
    have b := nb_bd R n
    have l := nb_lt hn hr
    rw [nb_s1 hr] at hp
    have hp2 : p = nb R n := by omega
    subst hp2
    rw [f_X10_beside_L43, hA.1, w32_of (i := nb R N - 1) (by omega) (by omega), isIn_y M (by omega)]
    simp only [Option.bind_some, lt1_e]
    rw [if_neg (by decide), isPair_at h hn hr, w32_of (i := nb R n + -1) (by omega) (by omega)]
    simp only [Option.bind_some]
    have nx := C fuel (nb R n + -1) (by omega) (by omega)
    unfold opf
    by_cases hop : (n : Int) < T n
    · rw [if_pos hop, if_neg (by decide), if_pos (by omega), (hA.2 n hn hr).1, outer_at h]
      simp only [Option.bind_some]
      have inj := enc_inj h.2.2.1 (v := (n : Int)) (x := ou T v N) (ou_br h.2.2.1 v)
      by_cases he : enc R (ou T n N) = enc R (ou T v N)
      · rw [if_pos he, fd_1 (wif_1 ⟨hop, inj.mp he⟩), if_pos rfl]
      · rw [if_neg he, if_pos hw, nx, fd_0 (wif_0 (fun c => he (inj.mpr c.2)))]
    · rw [if_neg hop, if_pos rfl, if_pos hw, nx, fd_0 (wif_0 (fun c => hop c.1))]
def besideA (T : Tx) (G : Sn) (p : Nat) (w : Int) : Int := if w = 0 then fd (wif (Pt G.1 T.1) (Nn T.1) (ou (Pt G.1 T.1) (opn (Pt G.1 T.1) p : Nat) (Nn T.1))) (opn (Pt G.1 T.1) p) 0 else fu (wif (Pt G.1 T.1) (Nn T.1) (ou (Pt G.1 T.1) (opn (Pt G.1 T.1) p : Nat) (Nn T.1))) (Nn T.1 - (opn (Pt G.1 T.1) p + 1)) (opn (Pt G.1 T.1) p + 1) 0
theorem besideL {T : Tx} {G : Sn} {B : Bx} {M : Mem} (v1 w : Int) (hW : WT T) (hG : WG G) (hC : CI T G B M) (hM : MoI T G B M) : Ok ((f_L_beside v1 w M).bind fun p676 => (f_X10_beside v1 w p676.2).bind fun p702 => (f_X10_thrown p702.2).bind fun p708 => if p708 = p676.1 then if p676.1 = 0 then if p702.2 113 0 = p702.1 then some p702.2 else none else some p702.2 else none) (fun M' => CI T G B M' ∧ MoI T G B M') := by
  have hN := Nn_is hW.1
  unfold f_L_beside
  by_cases hp : 0 ≤ v1 ∧ v1 < T.1.len
  · obtain ⟨p, rfl, hp2⟩ := at_place hW.1 hp
    by_cases ht : Pt G.1 T.1 p = -1
    · refine lawW (Y := f_X10_beside p w) 3 2 0 hM ?_ hW (fun _ _ => rfl) (by decide) (fun M1 h1 => ?_)
      · unfold f_X9_beside
        refine .bind (.val (askByte_y hC.1 hp)) (fun z hz => ?_)
        subst hz
        refine .ifT rfl (.bind (askPaired_ok hW hC hp2) (fun r ⟨r0, r1, r2, r3, r4⟩ => ?_))
        rw [if_pos ht] at r0
        exact .ifF (by omega) (.ret ⟨r0, fun h => absurd h (by decide), r3, r4⟩)
      · unfold f_X10_beside
        refine .bind (m_noPair hW hG h1 hp2) (fun z ⟨b0, b1, b2, b3, b4⟩ => ?_)
        rw [if_pos ht] at b0 b1
        exact .ifF (by omega) (.ret ⟨b1, fun h => absurd h (by decide), b3, b4⟩)
    · have oi := opn_is (PS_of hG T.1) ht
      obtain ⟨c, e1, e2, e3, e4, e5⟩ := (PS_of hG T.1).mate (p := opn (Pt G.1 T.1) p) (by omega)
      have or' : Rof G.1 T.1 (opn (Pt G.1 T.1) p) ≠ -1 := ((PS_of hG T.1).2.2.1 _ c e1 (by omega)).1
      have eo : ∀ e : Nat, ou (Pt G.1 T.1) (opn (Pt G.1 T.1) p : Nat) (Nn T.1) = e → e < opn (Pt G.1 T.1) p ∧ (c : Int) < Pt G.1 T.1 e := fun e he => by
        rcases ou_is (Pt G.1 T.1) (opn (Pt G.1 T.1) p : Nat) (Nn T.1) with ⟨a, _⟩ | ⟨e', a, b, d, _⟩
        · omega
        · have : e' = e := by omega
          subst this
          obtain ⟨z, z1, z2, z3, z4, z5⟩ := (PS_of hG T.1).mate (p := e') (by omega)
          have := (PS_of hG T.1).2.2.2 e' z (opn (Pt G.1 T.1) p) c z1 (by omega) e1 (by omega) (by omega) (by omega)
          omega
      refine lawW (Y := f_X10_beside p w) 0 0 (besideA T G p w) hM ?_ hW (fun _ _ => rfl) (by decide) (fun M1 h1 => ?_)
      · unfold f_X9_beside
        refine .bind (.val (askByte_y hC.1 hp)) (fun z hz => ?_)
        subst hz
        refine .ifT rfl (.bind (askPaired_ok hW hC hp2) (fun r ⟨r0, r1, r2, r3, r4⟩ => ?_))
        rw [if_neg ht] at r0
        refine .ifT r0 (.bind (.val (readNow_twice r2)) (fun M2 hM2 => ?_))
        subst hM2
        refine .bind (.val (openingOf_at hN.2 (PS_of hG T.1) r1.cp hp2 ht)) (fun u hu => ?_)
        subst hu
        refine .ifC (fun hw => .bind (.val (readNow_twice r2)) (fun M2 hM2 => ?_)) (fun hw => .bind (.val (readNow_twice r2)) (fun M2 hM2 => ?_))
        · subst hM2
          refine .bind (Q := fun q => q = besideA T G p w) ?_ (fun q hq => .ret ⟨rfl, fun _ => hq, r3, r4⟩)
          unfold f_X5_pairAhead
          refine .bind (.val (depthOf_at hN.2 r1 oi.2)) (fun d hd => .let fun u eu => ?_)
          rw [w32_of (by omega) (by omega)] at eu
          refine .eq (c_ah_L hN.2 (PS_of hG T.1) r1 oi.2 hd (opn (Pt G.1 T.1) p) 4096 u (by omega) (Nat.le_refl _) eu (fun e he => by have := eo e he; omega)) (.ret ?_)
          unfold besideA
          rw [if_pos hw]
        · subst hM2
          refine .bind (Q := fun q => q = besideA T G p w) ?_ (fun q hq => .ret ⟨rfl, fun _ => hq, r3, r4⟩)
          unfold f_X5_pairBehind
          refine .bind (.val (depthOf_at hN.2 r1 oi.2)) (fun d hd => .bind (.val (partnerOf_at hN.2 r1.cp oi.2)) (fun x hx => .let fun u eu => ?_))
          rw [hx, e1, w32_of (by omega) (by omega)] at eu
          refine .eq (c_bh_L hN.2 (PS_of hG T.1) r1 oi.2 hd (Nn T.1 - (c + 1)) 4096 (c + 1) u rfl (by omega) (by omega) (by omega) (by omega) (fun e he => by have := eo e he; omega)) (.ret ?_)
          unfold besideA
          rw [if_neg hw]
          have s1 := fu_skip (wif (Pt G.1 T.1) (Nn T.1) (ou (Pt G.1 T.1) (opn (Pt G.1 T.1) p : Nat) (Nn T.1))) (Nn T.1 - (c + 1)) (c - opn (Pt G.1 T.1) p) (opn (Pt G.1 T.1) p + 1) 0 (fun q q0 q1 => wif_0 (fun x => ?_))
          · rw [show c - opn (Pt G.1 T.1) p + (Nn T.1 - (c + 1)) = Nn T.1 - (opn (Pt G.1 T.1) p + 1) by omega, show opn (Pt G.1 T.1) p + 1 + (c - opn (Pt G.1 T.1) p) = c + 1 by omega] at s1
            exact s1.symm
          · by_cases hqc : q = c
            · subst hqc; omega
            · have hq1 : (opn (Pt G.1 T.1) p : Int) < q ∧ (q : Int) < Pt G.1 T.1 (opn (Pt G.1 T.1) p) := by omega
              rcases ou_is (Pt G.1 T.1) q (Nn T.1) with ⟨a, b⟩ | ⟨e', a, b, d, f⟩
              · exact b _ oi.2 hq1
              · have := f _ oi.2 hq1
                have := eo e' (by rw [← x.2]; exact a)
                omega
      · unfold f_X10_beside
        refine .bind (m_noPair hW hG h1 hp2) (fun z ⟨b0, b1, b2, b3, b4⟩ => ?_)
        rw [if_neg ht] at b0 b1
        have bo := nb_bd (Rof G.1 T.1) (opn (Pt G.1 T.1) p)
        have lo := nb_lt oi.2 or'
        have bN := nb_bd (Rof G.1 T.1) (Nn T.1)
        refine .ifT b0 (.bind (.val (pairAt_at b2.1 hp2 ht)) (fun u hu => ?_))
        subst hu
        rw [(b2.1.2.2.2.1.2 _ oi.2 or').1]
        refine .ifT (by omega) (.bind (.val (outer_at b2.1 _)) (fun y hy => ?_))
        subst hy
        refine .ifC (fun hw => .let fun x ex => ?_) (fun hw => .let fun x ex => ?_)
        · rw [w32_of (by omega) (by omega)] at ex
          refine .eq (m_bs_dn b2.1 _ w hw (opn (Pt G.1 T.1) p) (by omega) 4096 x (by omega) ex) (.ret ⟨b1, fun _ => ?_, b3, b4⟩)
          unfold besideA
          rw [if_pos hw]
        · rw [w32_of (by omega) (by omega)] at ex
          refine .eq (m_bs_up b2.1 _ w hw (opn (Pt G.1 T.1) p + 1) (by omega) 4096 x (by omega) (by rw [nb_s1 or']; exact ex)) (.ret ⟨b1, fun _ => ?_, b3, b4⟩)
          unfold besideA
          rw [if_neg hw]
  · refine lawW (Y := f_X10_beside v1 w) 1 1 0 hM ?_ hW (fun _ _ => rfl) (by decide) (fun M1 h1 => ?_)
    · unfold f_X9_beside
      refine .bind (.val (askByte_n hC.1 hp)) (fun z hz => ?_)
      subst hz
      exact .ifF (by show ¬ (1 : Nat) = 0; decide) (.ret ⟨rfl, fun h => absurd h (by decide), hC, FrC.rf⟩)
    · unfold f_X10_beside f_X10_noPair
      refine .bind (Q := fun z => z.1 = 1 ∧ z.2 84 0 = 1 ∧ MoI T G B z.2 ∧ FrM M1 z.2) (.bind (m_noPlace hW hG h1 v1) (fun z ⟨b0, b1, b2, b3, b4⟩ => ?_)) (fun z ⟨b0, b1, b3, b4⟩ => .ifF (by omega) (.ret ⟨b1, fun h => absurd h (by decide), b3, b4⟩))
      rw [if_neg hp] at b0 b1
      exact .ifF (by omega) (.ret ⟨rfl, b1, b3, b4⟩)
theorem law_8_ok {T : Tx} {G : Sn} {B : Bx} {M : Mem} (v1 v2 : Int) (hW : WT T) (hG : WG G) (hC : CI T G B M) (hM : MoI T G B M) : Ok (f_law_8 v1 v2 M) (fun M' => CI T G B M' ∧ MoI T G B M') := by
  unfold f_law_8
  exact .ifC (fun _ => besideL v1 0 hW hG hC hM) (fun _ => besideL v1 1 hW hG hC hM)
