/-! ===== brackets by number; the model pairs ===== -/
def nb (R : Nat → Int) (n : Nat) : Int := sm (fun q => if R q = -1 then 0 else 1) n
theorem nb_bd (R : Nat → Int) (n : Nat) : 0 ≤ nb R n ∧ nb R n ≤ n := sm_bd (fun k => by show 0 ≤ (if R k = -1 then (0 : Int) else 1) ∧ (if R k = -1 then (0 : Int) else 1) ≤ 1; split <;> omega) n
theorem nb_s0 {R : Nat → Int} {n : Nat} (h : R n = -1) : nb R (n + 1) = nb R n := by
  show nb R n + (if R n = -1 then (0 : Int) else 1) = _
  rw [if_pos h]; omega
theorem nb_s1 {R : Nat → Int} {n : Nat} (h : R n ≠ -1) : nb R (n + 1) = nb R n + 1 := by
  show nb R n + (if R n = -1 then (0 : Int) else 1) = _
  rw [if_neg h]
theorem nb_mono (R : Nat → Int) {p n : Nat} (h : p ≤ n) : nb R p ≤ nb R n := sm_mono (fun k => by show 0 ≤ (if R k = -1 then (0 : Int) else 1); split <;> omega) n p h
theorem nb_lt {R : Nat → Int} {p n : Nat} (h : p < n) (hr : R p ≠ -1) : nb R p < nb R n := by
  have := nb_mono R (p := p + 1) (n := n) (by omega)
  rw [nb_s1 hr] at this
  omega
theorem nb_inj {R : Nat → Int} {p q : Nat} (hp : R p ≠ -1) (hq : R q ≠ -1) (h : nb R p = nb R q) : p = q := by
  by_cases h1 : p < q
  · have := nb_lt h1 hp; omega
  · by_cases h2 : q < p
    · have := nb_lt h2 hq; omega
    · omega
theorem nb_sur (R : Nat → Int) : ∀ (N : Nat) (k : Int), 0 ≤ k → k < nb R N → ∃ p : Nat, p < N ∧ R p ≠ -1 ∧ nb R p = k := by
  intro N
  induction N with
  | zero => intro k h0 h1; exact absurd h1 (by show ¬ k < (0 : Int); omega)
  | succ N ih =>
    intro k h0 h1
    by_cases hr : R N = -1
    · rw [nb_s0 hr] at h1
      obtain ⟨p, a, b⟩ := ih k h0 h1
      exact ⟨p, by omega, b⟩
    · rw [nb_s1 hr] at h1
      by_cases e : k = nb R N
      · exact ⟨N, by omega, hr, e.symm⟩
      · obtain ⟨p, a, b⟩ := ih k h0 (by omega)
        exact ⟨p, by omega, b⟩
theorem nbr_nb (ρ b : Int → Int) (sk : Int) : ∀ n : Nat, nbr ρ b sk n = nb (rl ρ b sk) n := by
  intro n
  induction n with
  | zero => rfl
  | succ n ih => rw [nbr, ih]; rfl
/-- from the end of the places ahead to the first one: places without a bracket need nothing -/
theorem byPl {C : Nat → Prop} (R : Nat → Int) (N : Nat) (h0 : C N) (hs : ∀ n, n < N → R n = -1 → C (n + 1) → C n) (hb : ∀ n, n < N → R n ≠ -1 → C (n + 1) → C n) : ∀ n, n ≤ N → C n := by
  have key : ∀ r n : Nat, N - n = r → n ≤ N → C n := by
    intro r
    induction r with
    | zero => intro n h hn; rw [show n = N by omega]; exact h0
    | succ r ih =>
      intro n h hn
      have c := ih (n + 1) (by omega) (by omega)
      by_cases hr : R n = -1
      · exact hs n (by omega) hr c
      · exact hb n (by omega) hr c
  exact fun n hn => key _ n rfl hn
/-- from the first place on -/
theorem byUp {C : Nat → Prop} (R : Nat → Int) (N : Nat) (h0 : C 0) (hs : ∀ n, n < N → R n = -1 → C n → C (n + 1)) (hb : ∀ n, n < N → R n ≠ -1 → C n → C (n + 1)) : ∀ n, n ≤ N → C n := by
  intro n
  induction n with
  | zero => intro _; exact h0
  | succ n ih =>
    intro hn
    by_cases hr : R n = -1
    · exact hs n (by omega) hr (ih (by omega))
    · exact hb n (by omega) hr (ih (by omega))
def StkB (f : Int → Int) (g : Nat → Int) : List Nat → Prop
  | [] => True
  | q :: L => f (L.length : Int) = g q ∧ StkB f g L
theorem StkB.congr {f f' : Int → Int} {g : Nat → Int} : ∀ {L : List Nat}, StkB f g L → (∀ i : Int, 0 ≤ i → i < L.length → f' i = f i) → StkB f' g L := by
  intro L
  induction L with
  | nil => intro _ _; trivial
  | cons q L ih =>
    intro h e
    refine ⟨(e _ (by omega) (by simp only [List.length_cons]; omega)).trans h.1, ih h.2 (fun i i0 i1 => e i i0 (by simp only [List.length_cons]; omega))⟩
theorem StkB.drop {f : Int → Int} {g : Nat → Int} (R : Nat → Int) (r : Int) : ∀ {L : List Nat}, StkB f g L → StkB f g (dropW R r L) := by
  intro L
  induction L with
  | nil => intro h; exact h
  | cons q L ih =>
    intro h
    rw [dropW]
    split
    · exact h
    · exact ih h.2
/-- a partner's number -/
def enc (R : Nat → Int) (x : Int) : Int := if x = -1 then -1 else nb R x.toNat
theorem enc_no (R : Nat → Int) : enc R (-1) = -1 := by unfold enc; rw [if_pos rfl]
theorem enc_is (R : Nat → Int) (q : Nat) : enc R (q : Int) = nb R q := by unfold enc; rw [if_neg (by omega), Int.toNat_natCast]
/-- the model's brackets -/
def MA (R : Nat → Int) (N : Nat) (M : Mem) : Prop := M 84 26 = nb R N ∧ ∀ p : Nat, p < N → R p ≠ -1 → M 93 (nb R p) = p ∧ M 94 (nb R p) = R p / 2 ∧ M 95 (nb R p) = 1 - R p % 2
def MP (R : Nat → Int) (T : Nat → Int) (N : Nat) (M : Mem) : Prop := ∀ p : Nat, p < N → R p ≠ -1 → M 96 (nb R p) = enc R (T p)
theorem MA.same {R : Nat → Int} {N : Nat} {M M' : Mem} (h : MA R N M) (e : ∀ c i, (c = 84 ∧ i = 26) ∨ c = 93 ∨ c = 94 ∨ c = 95 → M' c i = M c i) : MA R N M' :=
  ⟨(e 84 26 (by omega)).trans h.1, fun p hp hr => by rw [e 93 _ (by omega), e 94 _ (by omega), e 95 _ (by omega)]; exact h.2 p hp hr⟩
theorem f_L50_ok {R : Nat → Int} {N : Nat} (hN : N ≤ 240) (hR : ∀ p : Nat, R p = -1 ∨ (0 ≤ R p ∧ R p ≤ 7)) {M : Mem} (hA : MA R N M) {n : Nat} (hn : n < N) (hr : R n ≠ -1) (ho : R n % 2 ≠ 0) (k : Int → Int → Int → Mem → Option Mem) (v1 : Int) : ∀ (L : List Nat) (fuel : Nat) (v3 : Int), L.length < fuel → L.length ≤ 240 → v3 = (L.length : Int) - 1 → StkB (M 97) (nb R) L → (∀ w, w ∈ L → w < n ∧ R w ≠ -1 ∧ R w % 2 = 0) →
    f_X10_findsPairs_L50 k fuel v1 (nb R n) v3 M = k v1 (nb R n) (((dropW R (R n - 1) L).length : Int) - 1) M := by
  intro L
  have bn := nb_bd R n
  have bN := nb_bd R N
  induction L with
  | nil =>
    intro fuel v3 hf h2 hv hS hw
    obtain ⟨fuel, rfl⟩ : ∃ f, fuel = f + 1 := ⟨fuel - 1, by omega⟩
    rw [f_X10_findsPairs_L50, hv]
    rfl
  | cons q L ih =>
    intro fuel v3 hf h2 hv hS hw
    obtain ⟨fuel, rfl⟩ : ∃ f, fuel = f + 1 := ⟨fuel - 1, by omega⟩
    simp only [List.length_cons] at hf h2 hv
    have hvL : v3 = (L.length : Int) := by omega
    subst hvL
    obtain ⟨q1, q2, q3⟩ := hw q List.mem_cons_self
    have bq := nb_bd R q
    have lq := nb_lt q1 q2
    have lN := nb_lt hn hr
    have aq := hA.2 q (by omega) q2
    have an := hA.2 n hn hr
    have rq := hR q
    have rn := hR n
    rw [f_X10_findsPairs_L50, if_neg (by omega), if_pos (by omega), hS.1, if_pos (by omega), if_pos (by omega), aq.2.1, an.2.1, dropW]
    by_cases hc : R q = R n - 1
    · rw [if_pos hc, if_pos (by omega)]
      simp only [List.length_cons]
      congr 1
    · rw [if_neg hc, if_neg (by omega)]
      show f_X10_findsPairs_L50 k fuel v1 (nb R n) (w32 ((L.length : Int) + -1)) M = _
      rw [w32_of (by omega) (by omega)]
      exact ih fuel _ (by omega) (by omega) (by omega) hS.2 (fun w hw' => hw w (List.mem_cons_of_mem _ hw'))
theorem f_L9_ok {R : Nat → Int} {N : Nat} (hN : N ≤ 240) (hR : ∀ p : Nat, R p = -1 ∨ (0 ≤ R p ∧ R p ≤ 7)) : ∀ n : Nat, n ≤ N → ∀ (fuel : Nat) (v1 v2 : Int) (M : Mem), N - n < fuel → v1 = ((wt R n).length : Int) → v2 = nb R n → MA R N M → StkB (M 97) (nb R) (wt R n) → (∀ p : Nat, p < n → R p ≠ -1 → M 96 (nb R p) = enc R (pt R n p)) →
    Ok (f_X10_findsPairs_L9 fuel v1 v2 M) (fun M' => MP R (pt R N) N M' ∧ ∀ c i, c ≠ 96 → c ≠ 97 → M' c i = M c i) := by
  refine byPl R N ?_ (fun n hn hr C => ?_) (fun n hn hr C => ?_)
  · intro fuel v1 v2 M hf h1 h2 hA hS hp
    obtain ⟨fuel, rfl⟩ : ∃ f, fuel = f + 1 := ⟨fuel - 1, by omega⟩
    rw [f_X10_findsPairs_L9]
    exact .ifT (by rw [hA.1]; omega) (.ret ⟨hp, fun c i _ _ => rfl⟩)
  · intro fuel v1 v2 M hf h1 h2 hA hS hp
    have hm : mt R n = -1 := by unfold mt; rw [if_pos (Or.inl hr)]
    have hw : wt R (n + 1) = wt R n := by rw [wt, if_pos hr]
    refine C fuel v1 v2 M (by omega) (by rw [hw]; exact h1) (by rw [nb_s0 hr]; exact h2) hA (by rw [hw]; exact hS) (fun p hp1 hpr => ?_)
    rw [pt, if_pos hm]
    by_cases e : p = n
    · subst e; exact absurd hr hpr
    · exact hp p (by omega) hpr
  · intro fuel v1 v2 M hf h1 h2 hA hS hp
    obtain ⟨fuel, rfl⟩ : ∃ f, fuel = f + 1 := ⟨fuel - 1, by omega⟩
    subst h1; subst h2
    have bn := nb_bd R n
    have bN := nb_bd R N
    have lN := nb_lt hn hr
    have an := hA.2 n hn hr
    have rn := hR n
    have wl := wt_len R n
    have pk := pairs_keep hR n
    have nout : pt R n n = -1 := pt_out R n n (Nat.le_refl _)
    have old : ∀ p : Nat, p < n → R p ≠ -1 → nb R p < nb R n := fun p hp hpr => nb_lt hp hpr
    rw [f_X10_findsPairs_L9, hA.1]
    refine .ifF (by omega) (.ifT (by omega) (.put fun M1 e1 => ?_))
    have hA1 : MA R N M1 := hA.same (fun c i h => by rw [e1, if_neg (by omega)])
    have hS1 : StkB (M1 97) (nb R) (wt R n) := hS.congr (fun i _ _ => by rw [e1, if_neg (by omega)])
    have hp1 : ∀ p : Nat, p < n + 1 → R p ≠ -1 → M1 96 (nb R p) = enc R (pt R n p) := fun p hpn hpr => by
      by_cases e : p = n
      · subst e; rw [e1, if_pos ⟨rfl, rfl⟩, nout, enc_no]
      · have := old p (by omega) hpr
        rw [e1, if_neg (by omega)]; exact hp p (by omega) hpr
    have fr1 : ∀ c i, c ≠ 96 → c ≠ 97 → M1 c i = M c i := fun c i a _ => by rw [e1, if_neg (by omega)]
    rw [(hA1.2 n hn hr).2.2]
    by_cases hev : R n % 2 = 0
    · have hm : mt R n = -1 := by unfold mt; rw [if_pos (Or.inr hev)]
      have hw : wt R (n + 1) = n :: wt R n := by rw [wt, if_neg hr, if_pos hev]
      refine .ifF (by omega) (.ifT (by omega) (.put fun M2 e2 => .let fun t et => .let fun u eu => ?_))
      rw [w32_of (by omega) (by omega)] at et eu
      refine (C fuel t u M2 (by omega) (by rw [hw, List.length_cons]; omega) (by rw [nb_s1 hr]; exact eu) (hA1.same (fun c i h => by rw [e2, if_neg (by omega)])) ?_ (fun p hpn hpr => ?_)).mono (fun M' h => ⟨h.1, fun c i a b => ?_⟩)
      · rw [hw]
        exact ⟨by rw [e2, if_pos ⟨rfl, rfl⟩], hS1.congr (fun i i0 i1 => by rw [e2, if_neg (by omega)])⟩
      · rw [pt, if_pos hm, e2, if_neg (by omega)]
        exact hp1 p hpn hpr
      · rw [h.2 c i a b, e2, if_neg (by omega)]; exact fr1 c i a b
    · refine .ifT (by omega) (.let fun t et => ?_)
      rw [w32_of (by omega) (by omega)] at et
      rw [f_L50_ok hN hR hA1 hn hr hev _ _ (wt R n) 4096 t (by omega) (by omega) et hS1 (fun w hw => ⟨(pk.2.1 w hw).1, (pk.2.1 w hw).2.1, (pk.2.1 w hw).2.2.1⟩)]
      cases hd : dropW R (R n - 1) (wt R n) with
      | nil =>
        have hm : mt R n = -1 := by unfold mt; rw [if_neg (by omega), hd]
        have hw : wt R (n + 1) = wt R n := by rw [wt, if_neg hr, if_neg hev, if_pos hd]
        refine .ifT (by show ((0 : Nat) : Int) - 1 < 0; omega) (.let fun u eu => ?_)
        rw [w32_of (by omega) (by omega)] at eu
        refine (C fuel _ u M1 (by omega) (by rw [hw]) (by rw [nb_s1 hr]; exact eu) hA1 (by rw [hw]; exact hS1) (fun p hpn hpr => ?_)).mono (fun M' h => ⟨h.1, fun c i a b => ?_⟩)
        · rw [pt, if_pos hm]
          exact hp1 p hpn hpr
        · rw [h.2 c i a b]; exact fr1 c i a b
      | cons z L =>
        have hm : mt R n = z := by unfold mt; rw [if_neg (by omega), hd]
        have hw : wt R (n + 1) = L := by rw [wt, if_neg hr, if_neg hev, if_neg (by rw [hd]; simp), hd]; rfl
        have zw : z ∈ wt R n := dropW_sub R _ _ z (by rw [hd]; exact List.mem_cons_self)
        obtain ⟨z1, z2, z3, z4⟩ := pk.2.1 z zw
        have SD := hS1.drop R (R n - 1)
        rw [hd] at SD
        have hLn : L.length < (wt R n).length := by have := dropW_len R (R n - 1) (wt R n); rw [hd, List.length_cons] at this; omega
        have lz := nb_lt z1 z2
        have bz := nb_bd R z
        rw [show (((z :: L).length : Nat) : Int) - 1 = (L.length : Int) by rw [List.length_cons]; omega]
        refine .ifF (by omega) (.ifT (by omega) (.ifT (by omega) (.put fun M2 e2 => ?_)))
        have s2 : M2 97 (L.length : Int) = nb R z := by rw [e2, if_neg (by omega)]; exact SD.1
        rw [SD.1] at e2
        rw [s2]
        refine .ifT (by omega) (.put fun M3 e3 => .let fun u eu => ?_)
        rw [w32_of (by omega) (by omega)] at eu
        refine (C fuel _ u M3 (by omega) (by rw [hw]) (by rw [nb_s1 hr]; exact eu) (hA1.same (fun c i h => by rw [e3, if_neg (by omega), e2, if_neg (by omega)])) ?_ (fun p hpn hpr => ?_)).mono (fun M' h => ⟨h.1, fun c i a b => ?_⟩)
        · rw [hw]
          exact SD.2.congr (fun i i0 i1 => by rw [e3, if_neg (by omega), e2, if_neg (by omega)])
        · rw [pt, if_neg (by omega), hm]
          by_cases hpz : p = z
          · subst hpz
            rw [if_pos rfl, e3, if_pos ⟨rfl, rfl⟩, enc_is]
          · have nz : ¬ nb R p = nb R z := fun e => hpz (nb_inj hpr z2 e)
            rw [if_neg (by omega), e3, if_neg (by omega), e2]
            by_cases hpn2 : p = n
            · subst hpn2
              rw [if_pos rfl, if_pos ⟨rfl, rfl⟩, enc_is]
            · have nn : ¬ nb R p = nb R n := fun e => hpn2 (nb_inj hpr hr e)
              rw [if_neg hpn2, if_neg (by omega)]
              exact hp1 p hpn hpr
        · rw [h.2 c i a b, e3, if_neg (by omega), e2, if_neg (by omega)]; exact fr1 c i a b
