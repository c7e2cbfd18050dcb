/-! ===== widest, means, around, within, beside ===== -/
def wdS (T : Nat → Int) : Nat → Int × Int
  | 0 => (-1, 0)
  | n + 1 => if (wdS T n).2 < T n - n then ((n : Int), T n - n) else wdS T n
theorem wdS_bd {R T : Nat → Int} {N : Nat} (h : PS R N T) : ∀ n : Nat, n ≤ N → 0 ≤ (wdS T n).2 ∧ (wdS T n).2 ≤ N := by
  intro n
  induction n with
  | zero => intro _; exact ⟨Int.le_refl 0, by show (0 : Int) ≤ N; omega⟩
  | succ n ih =>
    intro hn
    have i := ih (by omega)
    rw [wdS]
    split
    · rename_i hc
      have : T n ≤ N := by
        have := h.1 n
        by_cases e : T n = -1
        · omega
        · obtain ⟨q, e1, e2, e3, e4, e5⟩ := h.mate e; omega
      exact ⟨by show (0 : Int) ≤ T n - n; omega, by show T n - (n : Int) ≤ N; omega⟩
    · exact i
theorem T_le {R T : Nat → Int} {N : Nat} (h : PS R N T) (n : Nat) : -1 ≤ T n ∧ T n < (N : Int) + 1 := by
  have := h.1 n
  by_cases e : T n = -1
  · omega
  · obtain ⟨q, e1, e2, e3, e4, e5⟩ := h.mate e; omega
theorem c_wd_L {R T : Nat → Int} {N : Nat} (hN : N ≤ 240) (hP : PS R N T) {M : Mem} (hT : CP T N M) : ∀ (r fuel n : Nat) (a b v : Int), N - n = r → r < fuel → n ≤ N → v = n → a = (wdS T n).1 → b = (wdS T n).2 → f_X5_widestPair_L6 fuel 54 a b v M = some (wdS T N).1 := by
  intro r
  induction r with
  | zero =>
    intro fuel n a b v hr hf hn hv ha hb
    obtain ⟨fuel, rfl⟩ : ∃ f, fuel = f + 1 := ⟨fuel - 1, by omega⟩
    have : n = N := by omega
    subst this
    rw [f_X5_widestPair_L6, hT.1, if_pos (by omega), ha]
  | succ r ih =>
    intro fuel n a b v hr hf hn hv ha hb
    obtain ⟨fuel, rfl⟩ : ∃ f, fuel = f + 1 := ⟨fuel - 1, by omega⟩
    subst hv
    have tl := T_le hP n
    have wb := wdS_bd hP n hn
    rw [f_X5_widestPair_L6, hT.1, if_neg (by omega), partnerOf_at hN hT (by omega)]
    simp only [Option.bind_some, lt1_e]
    rw [w32_of (i := T n - (n : Int)) (by omega) (by omega), w32_of (i := (n : Int) + 1) (by omega) (by omega)]
    by_cases hc : T n - (n : Int) ≤ b
    · rw [if_pos hc]
      have e : wdS T (n + 1) = wdS T n := by rw [wdS, if_neg (by omega)]
      exact ih fuel (n + 1) a b _ (by omega) (by omega) (by omega) (by omega) (by rw [e]; exact ha) (by rw [e]; exact hb)
    · rw [if_neg hc]
      have e : wdS T (n + 1) = ((n : Int), T n - n) := by rw [wdS, if_pos (by omega)]
      exact ih fuel (n + 1) _ _ _ (by omega) (by omega) (by omega) (by omega) (by rw [e]) (by rw [e])
theorem m_wd_L {R T : Nat → Int} {N : Nat} {M : Mem} (h : MB R T N M) : ∀ n : Nat, n ≤ N → ∀ (fuel : Nat) (a b v : Int), N - n < fuel → v = nb R n → a = (wdS T n).1 → b = (wdS T n).2 → f_X10_widest_L15 fuel a b v M = some ((wdS T N).1, M) := by
  have hN := h.1
  have bN := nb_bd R N
  have hA := h.2.2.2.1
  refine byPl R N ?_ (fun n hn hr C => ?_) (fun n hn hr C => ?_)
  · intro fuel a b v hf hv ha hb
    obtain ⟨fuel, rfl⟩ : ∃ f, fuel = f + 1 := ⟨fuel - 1, by omega⟩
    rw [f_X10_widest_L15, if_pos (by rw [hA.1]; omega), ha]
  · intro fuel a b v hf hv ha hb
    have wb := wdS_bd h.2.2.1 n (by omega)
    have t1 := h.2.2.1.none h.2.1 hr
    have e : wdS T (n + 1) = wdS T n := by rw [wdS, if_neg (by omega)]
    exact C fuel a b v (by omega) (by rw [nb_s0 hr]; exact hv) (by rw [e]; exact ha) (by rw [e]; exact hb)
  · intro fuel a b v hf hv ha hb
    obtain ⟨fuel, rfl⟩ : ∃ f, fuel = f + 1 := ⟨fuel - 1, by omega⟩
    have bb := nb_bd R n
    have l := nb_lt hn hr
    subst hv
    have tl := T_le h.2.2.1 n
    have wb := wdS_bd h.2.2.1 n (by omega)
    rw [f_X10_widest_L15, if_neg (by rw [hA.1]; omega), isPair_at h hn hr]
    simp only [Option.bind_some, lt1_e]
    rw [w32_of (i := nb R n + 1) (by omega) (by omega)]
    have keep : ¬ ((wdS T n).2 < T n - n) → f_X10_widest_L15 fuel a b (nb R n + 1) M = some ((wdS T N).1, M) := fun hc => by
      have e : wdS T (n + 1) = wdS T n := by rw [wdS, if_neg hc]
      exact C fuel a b _ (by omega) (by rw [nb_s1 hr]) (by rw [e]; exact ha) (by rw [e]; exact hb)
    unfold opf
    by_cases ho : (n : Int) < T n
    · rw [if_pos ho, if_neg (by decide), end_at h hn hr (by omega)]
      simp only [Option.bind_some]
      rw [if_pos (by omega), (hA.2 n hn hr).1, w32_of (i := T n - (n : Int)) (by omega) (by omega)]
      by_cases hc : T n - (n : Int) ≤ b
      · rw [if_pos hc]
        exact keep (by omega)
      · rw [if_neg hc]
        have e : wdS T (n + 1) = ((n : Int), T n - n) := by rw [wdS, if_pos (by omega)]
        exact C fuel _ _ _ (by omega) (by rw [nb_s1 hr]) (by rw [e]) (by rw [e])
    · rw [if_neg ho, if_pos rfl]
      exact keep (by omega)
theorem law_11_ok {T : Tx} {G : Sn} {B : Bx} {M : Mem} (hW : WT T) (hG : WG G) (hC : CI T G B M) (hM : MoI T G B M) : Ok (f_law_11 M) (fun M' => CI T G B M' ∧ MoI T G B M') := by
  have hN := Nn_is hW.1
  unfold f_law_11
  refine lawV (wdS (Pt G.1 T.1) (Nn T.1)).1 hM hW ?_ (fun M1 h1 => ?_)
  · unfold f_X9_widest f_X5_widestPair
    exact .bind (c_readNow hW hC) (fun M1 ⟨r1, r2, r3, r4, r5⟩ => .bind (.val (c_wd_L hN.2 (PS_of hG T.1) r1.cp (Nn T.1) 4096 0 (-1) 0 0 (by omega) (by omega) (by omega) rfl rfl rfl)) (fun q hq => .ret ⟨hq, r3, r4⟩))
  · unfold f_X10_widest
    refine .put fun M2 e2 => ?_
    obtain ⟨a1, a2, a3⟩ := h1.put0 e2
    exact .bind (m_find hW hG a1) (fun M3 ⟨b1, b2, b3, b4, b5⟩ => (.eq (m_wd_L b1.1 0 (by omega) 4096 (-1) 0 0 (by omega) rfl rfl rfl) (.ret ⟨rfl, b2, a2.trans b3⟩)))
/-! means and shares -/
def dsf (T : Nat → Int) (N : Nat) (p : Nat) : Int := if (p : Int) < T p then ar T N p else 0
theorem dsf_bd (T : Nat → Int) {N : Nat} (hN : N ≤ 240) : ∀ n : Nat, 0 ≤ sm (dsf T N) n ∧ sm (dsf T N) n ≤ 240 * n := by
  intro n
  induction n with
  | zero => exact ⟨Int.le_refl 0, Int.le_refl 0⟩
  | succ n ih =>
    have := ar_bd T N n
    have e : sm (dsf T N) (n + 1) = sm (dsf T N) n + dsf T N n := rfl
    have : 0 ≤ dsf T N n ∧ dsf T N n ≤ 240 := by unfold dsf; split <;> omega
    omega
theorem c_ds_L {ρ : Int → Int} {P : Pg} {M : Mem} (hN : Nn P ≤ 240) (h : RV ρ P M) : ∀ (r fuel n : Nat) (a v : Int), Nn P - n = r → r < fuel → n ≤ Nn P → v = n → a = sm (dsf (Pt ρ P) (Nn P)) n → f_X5_depthSum_L4 fuel 54 a v M = some (sm (dsf (Pt ρ P) (Nn P)) (Nn P)) := by
  intro r
  induction r with
  | zero =>
    intro fuel n a v hr hf hn hv ha
    obtain ⟨fuel, rfl⟩ : ∃ f, fuel = f + 1 := ⟨fuel - 1, by omega⟩
    have : n = Nn P := by omega
    subst this
    rw [f_X5_depthSum_L4, h.1, if_pos (by omega), ha]
  | succ r ih =>
    intro fuel n a v hr hf hn hv ha
    obtain ⟨fuel, rfl⟩ : ∃ f, fuel = f + 1 := ⟨fuel - 1, by omega⟩
    subst hv
    have bd := dsf_bd (Pt ρ P) hN n
    have ab := ar_bd (Pt ρ P) (Nn P) n
    have e : sm (dsf (Pt ρ P) (Nn P)) (n + 1) = sm (dsf (Pt ρ P) (Nn P)) n + dsf (Pt ρ P) (Nn P) n := rfl
    rw [f_X5_depthSum_L4, h.1, if_neg (by omega), isOpening_at hN h.cp (by omega)]
    simp only [Option.bind_some, lt1_e]
    rw [w32_of (i := (n : Int) + 1) (by omega) (by omega)]
    unfold opf
    by_cases hc : (n : Int) < Pt ρ P n
    · have ed : dsf (Pt ρ P) (Nn P) n = ar (Pt ρ P) (Nn P) n := by unfold dsf; rw [if_pos hc]
      rw [if_pos hc, if_neg (by decide), depthOf_at hN h (by omega)]
      simp only [Option.bind_some]
      rw [w32_of (by omega) (by omega)]
      exact ih fuel (n + 1) _ _ (by omega) (by omega) (by omega) (by omega) (by rw [e, ed, ha])
    · have ed : dsf (Pt ρ P) (Nn P) n = 0 := by unfold dsf; rw [if_neg hc]
      rw [if_neg hc, if_pos rfl]
      exact ih fuel (n + 1) _ _ (by omega) (by omega) (by omega) (by omega) (by rw [e, ed, ha]; omega)
theorem m_ds_K {R T : Nat → Int} {N : Nat} {M : Mem} (h : MB R T N M) (a : Int) : Ok (f_X10_meanDepth_K52 a M) (fun q => q.1 = (if sm (opf T) N = 0 then 0 else a) ∧ q.2.1 = sm (opf T) N ∧ q.2.2 = M) := by
  unfold f_X10_meanDepth_K52
  refine .bind (.val (pairs_at h)) (fun z hz => .ifC (fun hc => .ret ?_) (fun hc => .bind (.val (pairs_at h)) (fun y hy => .ifF (by omega) (.ret ?_))))
  · rw [if_pos (by omega)]
    exact ⟨rfl, by show (0 : Int) = _; omega, rfl⟩
  · rw [if_neg (by omega)]
    exact ⟨rfl, hy, rfl⟩
theorem m_ds_L {R T : Nat → Int} {N : Nat} {M : Mem} (h : MB R T N M) : ∀ n : Nat, n ≤ N → ∀ (fuel : Nat) (a v : Int), N - n < fuel → v = nb R n → a = sm (dsf T N) n → Ok (f_X10_meanDepth_L13 fuel a v M) (fun q => q.1 = (if sm (opf T) N = 0 then 0 else sm (dsf T N) N) ∧ q.2.1 = sm (opf T) N ∧ q.2.2 = M) := by
  have hN := h.1
  have bN := nb_bd R N
  have hA := h.2.2.2.1
  refine byPl R N ?_ (fun n hn hr C => ?_) (fun n hn hr C => ?_)
  · intro fuel a v hf hv ha
    obtain ⟨fuel, rfl⟩ : ∃ f, fuel = f + 1 := ⟨fuel - 1, by omega⟩
    rw [f_X10_meanDepth_L13, ← ha]
    exact .ifT (by rw [hA.1]; omega) (m_ds_K h a)
  · intro fuel a v hf hv ha
    have t1 := h.2.2.1.none h.2.1 hr
    have e : sm (dsf T N) (n + 1) = sm (dsf T N) n + dsf T N n := rfl
    have ed : dsf T N n = 0 := by unfold dsf; rw [if_neg (by omega)]
    exact C fuel a v (by omega) (by rw [nb_s0 hr]; exact hv) (by rw [e, ed, ha]; omega)
  · intro fuel a v hf hv ha
    obtain ⟨fuel, rfl⟩ : ∃ f, fuel = f + 1 := ⟨fuel - 1, by omega⟩
    have bb := nb_bd R n
    have l := nb_lt hn hr
    subst hv
    have bd := dsf_bd T hN n
    have ab := ar_bd T N n
    have e : sm (dsf T N) (n + 1) = sm (dsf T N) n + dsf T N n := rfl
    rw [f_X10_meanDepth_L13, isPair_at h hn hr]
    simp only [Option.bind_some, lt1_e]
    rw [w32_of (i := nb R n + 1) (by omega) (by omega), w32_of (i := a + 0) (by omega) (by omega)]
    refine .ifF (by rw [hA.1]; omega) ?_
    unfold opf
    by_cases hc : (n : Int) < T n
    · have ed : dsf T N n = ar T N n := by unfold dsf; rw [if_pos hc]
      rw [if_pos hc, (hA.2 n hn hr).1, depthAt_at h]
      refine .ifF (by decide) (.ifT (by omega) ?_)
      simp only [Option.bind_some]
      rw [w32_of (by omega) (by omega)]
      exact C fuel _ _ (by omega) (by rw [nb_s1 hr]) (by rw [e, ed, ha])
    · have ed : dsf T N n = 0 := by unfold dsf; rw [if_neg hc]
      rw [if_neg hc]
      exact .ifT rfl (C fuel _ _ (by omega) (by rw [nb_s1 hr]) (by rw [e, ed, ha]))
theorem law_12_ok {T : Tx} {G : Sn} {B : Bx} {M : Mem} (hW : WT T) (hG : WG G) (hC : CI T G B M) (hM : MoI T G B M) : Ok (f_law_12 M) (fun M' => CI T G B M' ∧ MoI T G B M') := by
  have hN := Nn_is hW.1
  unfold f_law_12
  refine lawD (if sm (opf (Pt G.1 T.1)) (Nn T.1) = 0 then 0 else sm (dsf (Pt G.1 T.1) (Nn T.1)) (Nn T.1)) (sm (opf (Pt G.1 T.1)) (Nn T.1)) hM hW ?_ (fun M1 h1 => ?_)
  · unfold f_X9_meanDepth f_X5_depthSum
    refine .bind (c_readNow hW hC) (fun M1 ⟨r1, r2, r3, r4, r5⟩ => .let fun x ex => ?_)
    have ex2 : x = sm (opf (Pt G.1 T.1)) (Nn T.1) := ex.trans (r1.2.2.1.trans (np_op hG T.1))
    refine .ifC (fun hc => .ret ⟨?_, ?_, r3, r4⟩) (fun hc => .bind (.val (readNow_twice r2)) (fun M2 hM2 => ?_))
    · rw [if_pos (by omega)]
    · show (0 : Int) = _
      omega
    · subst hM2
      refine .bind (.val (c_ds_L hN.2 r1 (Nn T.1) 4096 0 0 0 (by omega) (by omega) (by omega) rfl rfl)) (fun q hq => .ifF hc (.ret ⟨?_, ex2, r3, r4⟩))
      rw [if_neg (by omega)]
      exact hq
  · unfold f_X10_meanDepth
    refine .put fun M2 e2 => ?_
    obtain ⟨a1, a2, a3⟩ := h1.put0 e2
    refine .bind (m_find hW hG a1) (fun M3 ⟨b1, b2, b3, b4, b5⟩ => (m_ds_L b1.1 0 (by omega) 4096 0 0 (by omega) rfl rfl).mono (fun q ⟨q1, q2, q3⟩ => ⟨q1, q2, by rw [q3]; exact b2, by rw [q3]; exact a2.trans b3⟩))
theorem law_13_ok {T : Tx} {G : Sn} {B : Bx} {M : Mem} (hW : WT T) (hG : WG G) (hC : CI T G B M) (hM : MoI T G B M) : Ok (f_law_13 M) (fun M' => CI T G B M' ∧ MoI T G B M') := by
  have hN := Nn_is hW.1
  have k := ln_op (PS_of hG T.1) (hR_of hG T.1)
  have bs := nb_bd (Rof G.1 T.1) (Nn T.1)
  have bp : 0 ≤ sm (opf (Pt G.1 T.1)) (Nn T.1) ∧ sm (opf (Pt G.1 T.1)) (Nn T.1) ≤ Nn T.1 := sm_bd (fun k => by unfold opf; split <;> omega) _
  unfold f_law_13
  refine lawD (if nb (Rof G.1 T.1) (Nn T.1) = 0 then 0 else 2 * sm (opf (Pt G.1 T.1)) (Nn T.1)) (nb (Rof G.1 T.1) (Nn T.1)) hM hW ?_ (fun M1 h1 => ?_)
  · unfold f_X9_share
    refine .bind (c_readNow hW hC) (fun M1 ⟨r1, r2, r3, r4, r5⟩ => .let fun x ex => ?_)
    have ex2 : x = nb (Rof G.1 T.1) (Nn T.1) := ex.trans r1.2.1
    refine .ifC (fun hc => .ret ⟨?_, ?_, r3, r4⟩) (fun hc => .bind (.val (readNow_twice r2)) (fun M2 hM2 => ?_))
    · rw [if_pos (by omega)]
    · show (0 : Int) = _
      omega
    · subst hM2
      refine .ifF hc (.ret ⟨?_, ex2, r3, r4⟩)
      rw [if_neg (by omega), r1.2.2.1, np_op hG T.1]
      exact w32_of (by omega) (by omega)
  · unfold f_X10_share
    refine .put fun M2 e2 => ?_
    obtain ⟨a1, a2, a3⟩ := h1.put0 e2
    refine .bind (m_find hW hG a1) (fun M3 ⟨b1, b2, b3, b4, b5⟩ => ?_)
    rw [b1.1.2.2.2.1.1]
    refine .ifC (fun hc => .ret ⟨?_, ?_, b2, a2.trans b3⟩) (fun hc => .bind (.val (lones_at b1.1)) (fun q hq => .ifF hc (.ret ⟨?_, rfl, b2, a2.trans b3⟩)))
    · rw [if_pos hc]
    · exact hc.symm
    · rw [if_neg hc, hq]
      have : w32 (nb (Rof G.1 T.1) (Nn T.1) - sm (lnf (Rof G.1 T.1) (Pt G.1 T.1)) (Nn T.1)) = nb (Rof G.1 T.1) (Nn T.1) - sm (lnf (Rof G.1 T.1) (Pt G.1 T.1)) (Nn T.1) := w32_of (by omega) (by omega)
      show w32 (nb (Rof G.1 T.1) (Nn T.1) - sm (lnf (Rof G.1 T.1) (Pt G.1 T.1)) (Nn T.1)) = _
      rw [this]
      omega
