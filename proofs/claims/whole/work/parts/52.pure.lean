/-! ===== pairs, further on: what every text's pairs keep ===== -/
/-- sums over places -/
def sm (f : Nat → Int) : Nat → Int
  | 0 => 0
  | n + 1 => sm f n + f n
theorem sm_congr {f g : Nat → Int} : ∀ n : Nat, (∀ k, k < n → f k = g k) → sm f n = sm g n := by
  intro n
  induction n with
  | zero => intro _; rfl
  | succ n ih =>
    intro h
    rw [sm, sm, ih (fun k hk => h k (by omega)), h n (by omega)]
theorem sm_add (f g : Nat → Int) : ∀ n : Nat, sm (fun k => f k + g k) n = sm f n + sm g n := by
  intro n
  induction n with
  | zero => rfl
  | succ n ih => rw [sm, sm, sm, ih]; omega
theorem sm_sub (f g : Nat → Int) : ∀ n : Nat, sm (fun k => f k - g k) n = sm f n - sm g n := by
  intro n
  induction n with
  | zero => rfl
  | succ n ih => rw [sm, sm, sm, ih]; omega
theorem sm_one (a : Nat) (v : Int) : ∀ n : Nat, sm (fun k => if k = a then v else 0) n = if a < n then v else 0 := by
  intro n
  induction n with
  | zero => rw [if_neg (by omega)]; rfl
  | succ n ih =>
    rw [sm, ih]
    by_cases h : n = a
    · rw [if_neg (by omega), if_pos h, if_pos (by omega)]; omega
    · rw [if_neg h]
      by_cases h2 : a < n
      · rw [if_pos h2, if_pos (by omega)]; omega
      · rw [if_neg h2, if_neg (by omega)]; omega
theorem sm_bd {f : Nat → Int} (h : ∀ k, 0 ≤ f k ∧ f k ≤ 1) : ∀ n : Nat, 0 ≤ sm f n ∧ sm f n ≤ n := by
  intro n
  induction n with
  | zero => exact ⟨Int.le_refl 0, Int.le_refl 0⟩
  | succ n ih => rw [sm]; have := h n; omega
theorem sm_mono {f : Nat → Int} (h : ∀ k, 0 ≤ f k) : ∀ (n p : Nat), p ≤ n → sm f p ≤ sm f n := by
  intro n
  induction n with
  | zero => intro p hp; rw [show p = 0 by omega]; exact Int.le_refl _
  | succ n ih =>
    intro p hp
    by_cases e : p = n + 1
    · rw [e]; exact Int.le_refl _
    · have := ih p (by omega); have := h n; rw [sm]; omega
/-- partners: each has one, and no pair crosses another -/
def PS (R : Nat → Int) (N : Nat) (T : Nat → Int) : Prop := (∀ p, -1 ≤ T p) ∧ (∀ p q : Nat, T p = q → T q = p ∧ p ≠ q ∧ p < N ∧ q < N) ∧ (∀ p q : Nat, T p = q → p < q → R p ≠ -1 ∧ R p % 2 = 0 ∧ R q = R p + 1) ∧ ∀ p q a b : Nat, T p = q → p < q → T a = b → a < b → p < a → a < q → b < q
def WS (R : Nat → Int) (n : Nat) : Prop := (∀ w, w ∈ wt R n → w < n ∧ R w ≠ -1 ∧ R w % 2 = 0 ∧ pt R n w = -1) ∧ (wt R n).Pairwise (fun a b => b < a) ∧ ∀ p q : Nat, pt R n p = q → p < q → ∀ w, w ∈ wt R n → w < p ∨ q < w
theorem dropW_head (R : Nat → Int) (r : Int) : ∀ {L : List Nat} {z : Nat} {K : List Nat}, dropW R r L = z :: K → R z = r := by
  intro L
  induction L with
  | nil => intro z K h; simp [dropW] at h
  | cons q L ih =>
    intro z K h
    rw [dropW] at h
    by_cases hq : R q = r
    · rw [if_pos hq] at h
      cases h
      exact hq
    · rw [if_neg hq] at h
      exact ih h
theorem dropW_suf (R : Nat → Int) (r : Int) : ∀ L : List Nat, (dropW R r L).Sublist L := by
  intro L
  induction L with
  | nil => exact List.Sublist.refl _
  | cons q L ih =>
    rw [dropW]
    split
    · exact List.Sublist.refl _
    · exact ih.trans (List.sublist_cons_self q L)
theorem pairs_keep {R : Nat → Int} (hR : ∀ p : Nat, R p = -1 ∨ (0 ≤ R p ∧ R p ≤ 7)) : ∀ n : Nat, PS R n (pt R n) ∧ WS R n := by
  intro n
  induction n with
  | zero =>
    refine ⟨⟨fun p => by show (-1 : Int) ≤ -1; omega, fun p q h => ?_, fun p q h => ?_, fun p q a b h => ?_⟩, fun w h => ?_, List.Pairwise.nil, fun p q h => ?_⟩
    · have h : (-1 : Int) = q := h; omega
    · have h : (-1 : Int) = q := h; omega
    · have h : (-1 : Int) = q := h; omega
    · exact absurd h (by simp [wt])
    · have h : (-1 : Int) = q := h; omega
  | succ n ih =>
    obtain ⟨⟨p1, p2, p3, p4⟩, w1, w2, w3⟩ := ih
    have same : mt R n = -1 → ∀ p, pt R (n + 1) p = pt R n p := fun h p => by rw [pt, if_pos h]
    have ps1 : mt R n = -1 → PS R (n + 1) (pt R (n + 1)) := by
      intro h
      have e := same h
      refine ⟨fun p => by rw [e]; exact p1 p, fun p q h => ?_, fun p q h => ?_, fun p q a b h h1 h2 => ?_⟩
      · rw [e] at h
        have := p2 p q h
        rw [e]
        exact ⟨this.1, this.2.1, by omega, by omega⟩
      · rw [e] at h
        exact p3 p q h
      · rw [e] at h h2
        exact p4 p q a b h h1 h2
    by_cases hn1 : R n = -1
    · have hm : mt R n = -1 := by unfold mt; rw [if_pos (Or.inl hn1)]
      have hw : wt R (n + 1) = wt R n := by rw [wt, if_pos hn1]
      refine ⟨ps1 hm, ?_⟩
      unfold WS
      rw [hw]
      refine ⟨fun w h => ?_, w2, fun p q h => ?_⟩
      · have := w1 w h
        rw [same hm]
        exact ⟨by omega, this.2⟩
      · rw [same hm] at h
        exact w3 p q h
    · by_cases hev : R n % 2 = 0
      · have hm : mt R n = -1 := by unfold mt; rw [if_pos (Or.inr hev)]
        have hw : wt R (n + 1) = n :: wt R n := by rw [wt, if_neg hn1, if_pos hev]
        refine ⟨ps1 hm, ?_⟩
        unfold WS
        rw [hw]
        refine ⟨fun w h => ?_, List.pairwise_cons.mpr ⟨fun a ha => (w1 a ha).1, w2⟩, fun p q h hpq w hwm => ?_⟩
        · rw [same hm]
          rcases List.mem_cons.mp h with h | h
          · subst h
            exact ⟨by omega, hn1, hev, pt_out R w w (Nat.le_refl _)⟩
          · have := w1 w h
            exact ⟨by omega, this.2⟩
        · rw [same hm] at h
          rcases List.mem_cons.mp hwm with e | e
          · have := p2 p q h; omega
          · exact w3 p q h hpq w e
      · cases hd : dropW R (R n - 1) (wt R n) with
        | nil =>
          have hm : mt R n = -1 := by unfold mt; rw [if_neg (by omega), hd]
          have hw : wt R (n + 1) = wt R n := by rw [wt, if_neg hn1, if_neg hev, if_pos hd]
          refine ⟨ps1 hm, ?_⟩
          unfold WS
          rw [hw]
          refine ⟨fun w h => ?_, w2, fun p q h => ?_⟩
          · have := w1 w h
            rw [same hm]
            exact ⟨by omega, this.2⟩
          · rw [same hm] at h
            exact w3 p q h
        | cons z L =>
          have hm : mt R n = z := by unfold mt; rw [if_neg (by omega), hd]
          have hw : wt R (n + 1) = L := by rw [wt, if_neg hn1, if_neg hev, if_neg (by rw [hd]; simp), hd]; rfl
          have hz : R z = R n - 1 := dropW_head R _ hd
          have sub : (z :: L).Sublist (wt R n) := by rw [← hd]; exact dropW_suf R _ _
          have zw : z ∈ wt R n := sub.subset List.mem_cons_self
          have lw : ∀ w, w ∈ L → w ∈ wt R n := fun w h => sub.subset (List.mem_cons_of_mem _ h)
          have srt := List.pairwise_cons.mp (w2.sublist sub)
          obtain ⟨z1, z2, z3, z4⟩ := w1 z zw
          have new : ∀ x, pt R (n + 1) x = if x = z then (n : Int) else if x = n then (z : Int) else pt R n x := fun x => by
            rw [pt, if_neg (by omega), hm]
            by_cases hx : x = z
            · rw [if_pos (by omega), if_pos hx]
            · rw [if_neg (by omega), if_neg hx]
          have nout : pt R n n = -1 := pt_out R n n (Nat.le_refl _)
          have cs : ∀ x y : Nat, pt R (n + 1) x = y → (x = z ∧ y = n) ∨ (x = n ∧ y = z) ∨ (pt R n x = y ∧ x ≠ z ∧ x ≠ n ∧ y ≠ z ∧ y ≠ n ∧ x < n ∧ y < n) := by
            intro x y h
            rw [new] at h
            by_cases hx : x = z
            · rw [if_pos hx] at h; omega
            · rw [if_neg hx] at h
              by_cases hx2 : x = n
              · rw [if_pos hx2] at h; omega
              · rw [if_neg hx2] at h
                have h2 := p2 x y h
                refine Or.inr (Or.inr ⟨h, hx, hx2, fun e => ?_, by omega, h2.2.2.1, h2.2.2.2⟩)
                rw [e, z4] at h2
                omega
          refine ⟨⟨fun p => ?_, fun p q h => ?_, fun p q h hpq => ?_, fun p q a b h hpq h2 hab hpa haq => ?_⟩, ?_⟩
          · rw [new]
            have := p1 p
            split
            · omega
            · split <;> omega
          · rcases cs p q h with ⟨e1, e2⟩ | ⟨e1, e2⟩ | ⟨e, n1, n2, n3, n4, n5, n6⟩
            · subst e1; subst e2
              exact ⟨by rw [new, if_neg (by omega), if_pos rfl], by omega, by omega, by omega⟩
            · subst e1; subst e2
              exact ⟨by rw [new, if_pos rfl], by omega, by omega, by omega⟩
            · have := p2 p q e
              exact ⟨by rw [new, if_neg n3, if_neg n4]; exact this.1, by omega, by omega, by omega⟩
          · rcases cs p q h with ⟨e1, e2⟩ | ⟨e1, e2⟩ | ⟨e, n1, n2, n3, n4, n5, n6⟩
            · subst e1; subst e2
              exact ⟨z2, z3, by omega⟩
            · omega
            · exact p3 p q e hpq
          · rcases cs p q h with ⟨e1, e2⟩ | ⟨e1, e2⟩ | ⟨e, n1, n2, n3, n4, n5, n6⟩
            · rcases cs a b h2 with ⟨f1, f2⟩ | ⟨f1, f2⟩ | ⟨f, m1, m2, m3, m4, m5, m6⟩ <;> omega
            · omega
            · rcases cs a b h2 with ⟨f1, f2⟩ | ⟨f1, f2⟩ | ⟨f, m1, m2, m3, m4, m5, m6⟩
              · have := w3 p q e hpq z zw; omega
              · omega
              · exact p4 p q a b e hpq f hab hpa haq
          · unfold WS
            rw [hw]
            refine ⟨fun w h => ?_, srt.2, fun p q h hpq w hwm => ?_⟩
            · obtain ⟨a1, a2, a3, a4⟩ := w1 w (lw w h)
              have := srt.1 w h
              exact ⟨by omega, a2, a3, by rw [new, if_neg (by omega), if_neg (by omega)]; exact a4⟩
            · rcases cs p q h with ⟨e1, e2⟩ | ⟨e1, e2⟩ | ⟨e, n1, n2, n3, n4, n5, n6⟩
              · have := srt.1 w hwm; omega
              · omega
              · exact w3 p q e hpq w (lw w hwm)
theorem pt_stay {R : Nat → Int} (hR : ∀ p : Nat, R p = -1 ∨ (0 ≤ R p ∧ R p ≤ 7)) (n p : Nat) (h : pt R n p ≠ -1) : ∀ d : Nat, pt R (n + d) p = pt R n p := by
  intro d
  induction d with
  | zero => rfl
  | succ d ih =>
    have k := pairs_keep hR (n + d)
    have hlt := mt_lt R (n + d)
    show pt R (n + d + 1) p = _
    rw [pt]
    by_cases h1 : mt R (n + d) = -1
    · rw [if_pos h1]; exact ih
    · rw [if_neg h1]
      have hz : (mt R (n + d)).toNat ∈ wt R (n + d) := by
        unfold mt at h1 ⊢
        by_cases hc : R (n + d) = -1 ∨ R (n + d) % 2 = 0
        · rw [if_pos hc] at h1; exact absurd rfl h1
        · rw [if_neg hc] at h1 ⊢
          cases hd : dropW R (R (n + d) - 1) (wt R (n + d)) with
          | nil => rw [hd] at h1; exact absurd rfl h1
          | cons z L => exact dropW_sub R _ _ z (by rw [hd]; exact List.mem_cons_self)
      have hpz : ¬ (p : Int) = mt R (n + d) := fun e => by
        have := (k.2.1 _ hz).2.2.2
        rw [← e, Int.toNat_natCast, ih] at this
        exact h this
      have hpn : ¬ p = n + d := fun e => by
        have := pt_out R (n + d) p (by omega)
        rw [ih] at this
        exact h this
      rw [if_neg hpz, if_neg hpn]
      exact ih
/-- closing brackets with partners, told by the way they were paired -/
theorem pt_mt {R : Nat → Int} (hR : ∀ p : Nat, R p = -1 ∨ (0 ≤ R p ∧ R p ≤ 7)) (n : Nat) : ∀ d : Nat, (mt R n ≠ -1 → pt R (n + 1 + d) n = mt R n) ∧ (mt R n = -1 → pt R (n + 1 + d) n = -1 ∨ (n : Int) < pt R (n + 1 + d) n) := by
  intro d
  have out := pt_out R n n (Nat.le_refl _)
  have hlt := mt_lt R n
  constructor
  · intro h
    have e : pt R (n + 1) n = mt R n := by rw [pt, if_neg h, if_neg (by omega), if_pos rfl]
    rw [pt_stay hR (n + 1) n (by rw [e]; exact h) d, e]
  · intro h
    induction d with
    | zero => exact Or.inl (by show pt R (n + 1) n = -1; rw [pt, if_pos h]; exact out)
    | succ d ih =>
      show pt R (n + 1 + d + 1) n = -1 ∨ (n : Int) < pt R (n + 1 + d + 1) n
      rw [pt]
      by_cases h1 : mt R (n + 1 + d) = -1
      · rw [if_pos h1]; exact ih
      · rw [if_neg h1]
        by_cases h2 : (n : Int) = mt R (n + 1 + d)
        · rw [if_pos h2]; exact Or.inr (by omega)
        · rw [if_neg h2, if_neg (by omega)]; exact ih
def opf (T : Nat → Int) (p : Nat) : Int := if (p : Int) < T p then 1 else 0
def clf (T : Nat → Int) (p : Nat) : Int := if 0 ≤ T p ∧ T p < p then 1 else 0
theorem np_cl {R : Nat → Int} (hR : ∀ p : Nat, R p = -1 ∨ (0 ≤ R p ∧ R p ≤ 7)) (N : Nat) : ∀ n : Nat, n ≤ N → np R n = sm (clf (pt R N)) n := by
  intro n
  induction n with
  | zero => intro _; rfl
  | succ n ih =>
    intro h
    have k := pt_mt hR n (N - (n + 1))
    rw [show n + 1 + (N - (n + 1)) = N by omega] at k
    have hlt := mt_lt R n
    rw [np, sm, ih (by omega)]
    unfold clf
    by_cases h1 : mt R n = -1
    · have := k.2 h1
      rw [if_pos h1, if_neg (by omega)]
    · have := k.1 h1
      rw [if_neg h1, this, if_pos (by omega)]
/-- how many pairs are around a place -/
def arf (T : Nat → Int) (v : Int) (q : Nat) : Int := if (q : Int) < v ∧ v < T q then 1 else 0
def ar (T : Nat → Int) (N : Nat) (v : Int) : Int := sm (arf T v) N
def dd (T : Nat → Int) (n : Nat) : Int := sm (opf T) n - sm (clf T) n
theorem dd_ge {R T : Nat → Int} {N : Nat} (h : PS R N T) : ∀ n : Nat, n ≤ N → dd T n = sm (fun q => if (q : Int) < n ∧ (n : Int) ≤ T q then 1 else 0) N ∧ dd T n - clf T n = ar T N n := by
  obtain ⟨h1, h2, h3, h4⟩ := h
  have one : ∀ n : Nat, n < N → sm (fun q => if (q : Int) < n ∧ (n : Int) = T q then 1 else 0) N = clf T n := by
    intro n hn
    unfold clf
    by_cases hc : 0 ≤ T n ∧ T n < n
    · rw [if_pos hc]
      have ht : T n = ((T n).toNat : Int) := by omega
      have hq := h2 n (T n).toNat ht
      rw [sm_congr (g := fun q => if q = (T n).toNat then 1 else 0) N (fun q hq2 => ?_), sm_one, if_pos (by omega)]
      show (if (q : Int) < n ∧ (n : Int) = T q then (1 : Int) else 0) = if q = (T n).toNat then 1 else 0
      by_cases e : q = (T n).toNat
      · rw [if_pos e, if_pos ⟨by omega, by rw [e, hq.1]⟩]
      · rw [if_neg e, if_neg (fun c => e ?_)]
        have := h2 q n c.2.symm
        omega
    · rw [if_neg hc, sm_congr (g := fun q => if q = N then 1 else 0) N (fun q hq2 => ?_), sm_one, if_neg (by omega)]
      show (if (q : Int) < n ∧ (n : Int) = T q then (1 : Int) else 0) = if q = N then 1 else 0
      rw [if_neg (fun c => hc ?_), if_neg (by omega)]
      have := h2 q n c.2.symm
      omega
  have ard : ∀ n : Nat, ar T N n = sm (fun q => if (q : Int) < n ∧ (n : Int) ≤ T q then 1 else 0) N - sm (fun q => if (q : Int) < n ∧ (n : Int) = T q then 1 else 0) N := by
    intro n
    unfold ar
    rw [← sm_sub]
    refine sm_congr N (fun q hq => ?_)
    unfold arf
    show _ = (if (q : Int) < n ∧ (n : Int) ≤ T q then (1 : Int) else 0) - (if (q : Int) < n ∧ (n : Int) = T q then 1 else 0)
    split <;> split <;> split <;> omega
  have A : ∀ n : Nat, n ≤ N → dd T n = sm (fun q => if (q : Int) < n ∧ (n : Int) ≤ T q then 1 else 0) N := by
    intro n
    induction n with
    | zero =>
      intro _
      rw [sm_congr (g := fun q => if q = N then 1 else 0) N (fun q hq2 => ?_), sm_one, if_neg (by omega)]
      · rfl
      · show (if (q : Int) < (0 : Nat) ∧ ((0 : Nat) : Int) ≤ T q then (1 : Int) else 0) = if q = N then 1 else 0
        rw [if_neg (by omega), if_neg (by omega)]
    | succ n ih =>
      intro hn
      have i := ih (by omega)
      have o := one n (by omega)
      have e : sm (fun q => if (q : Int) < ((n + 1 : Nat) : Int) ∧ ((n + 1 : Nat) : Int) ≤ T q then 1 else 0) N = sm (fun q => if (q : Int) < n ∧ (n : Int) ≤ T q then 1 else 0) N - sm (fun q => if (q : Int) < n ∧ (n : Int) = T q then 1 else 0) N + sm (fun q => if q = n then opf T n else 0) N := by
        rw [← sm_sub, ← sm_add]
        refine sm_congr N (fun q hq => ?_)
        show _ = (if (q : Int) < n ∧ (n : Int) ≤ T q then (1 : Int) else 0) - (if (q : Int) < n ∧ (n : Int) = T q then 1 else 0) + (if q = n then opf T n else 0)
        unfold opf
        by_cases hqn : q = n
        · subst hqn
          rw [if_pos rfl, if_neg (c := (q : Int) < q ∧ (q : Int) ≤ T q) (by omega), if_neg (c := (q : Int) < q ∧ (q : Int) = T q) (by omega)]
          split <;> split <;> omega
        · rw [if_neg hqn]
          split <;> split <;> split <;> omega
      rw [e, o, ← i, sm_one, if_pos (by omega)]
      unfold dd
      rw [sm, sm]
      omega
  intro n hn
  refine ⟨A n hn, ?_⟩
  by_cases hN : n < N
  · rw [ard, one n hN, A n hn]
  · have : n = N := by omega
    subst this
    have c0 : clf T n = 0 := by
      unfold clf
      rw [if_neg (fun c => ?_)]
      have := h2 n (T n).toNat (by omega)
      omega
    rw [c0, A n hn]
    unfold ar
    rw [Int.sub_zero]
    refine sm_congr n (fun q hq => ?_)
    unfold arf
    show (if (q : Int) < n ∧ (n : Int) ≤ T q then (1 : Int) else 0) = _
    have : T q < n := by
      by_cases hq0 : T q = -1
      · omega
      · have := h1 q
        have := h2 q (T q).toNat (by omega)
        omega
    rw [if_neg (by omega), if_neg (by omega)]
/-- as many opening brackets with partners as closing ones -/
theorem op_cl {R T : Nat → Int} {N : Nat} (h : PS R N T) : sm (opf T) N = sm (clf T) N := by
  have k := dd_ge h N (Nat.le_refl _)
  have c0 : clf T N = 0 := by
    unfold clf
    rw [if_neg (fun c => ?_)]
    have := h.2.1 N (T N).toNat (by omega)
    omega
  have a0 : ar T N N = 0 := by
    unfold ar
    rw [sm_congr (g := fun q => if q = N then 1 else 0) N (fun q hq2 => ?_), sm_one, if_neg (by omega)]
    unfold arf
    show _ = if q = N then (1 : Int) else 0
    have : T q < N := by
      by_cases hq0 : T q = -1
      · omega
      · have := h.1 q
        have := h.2.1 q (T q).toNat (by omega)
        omega
    rw [if_neg (by omega), if_neg (by omega)]
  rw [c0, a0] at k
  unfold dd at k
  omega
/-- the innermost pair around a place -/
def ou (T : Nat → Int) (v : Int) : Nat → Int
  | 0 => -1
  | n + 1 => if (n : Int) < v ∧ v < T n then n else ou T v n
theorem ou_is (T : Nat → Int) (v : Int) : ∀ n : Nat, (ou T v n = -1 ∧ ∀ q : Nat, q < n → ¬ ((q : Int) < v ∧ v < T q)) ∨ ∃ e : Nat, ou T v n = e ∧ e < n ∧ ((e : Int) < v ∧ v < T e) ∧ ∀ q : Nat, q < n → ((q : Int) < v ∧ v < T q) → q ≤ e := by
  intro n
  induction n with
  | zero => exact Or.inl ⟨rfl, fun q h => by omega⟩
  | succ n ih =>
    rw [ou]
    by_cases h : (n : Int) < v ∧ v < T n
    · rw [if_pos h]
      exact Or.inr ⟨n, rfl, by omega, h, fun q hq _ => by omega⟩
    · rw [if_neg h]
      rcases ih with ⟨a, b⟩ | ⟨e, a, b, c, d⟩
      · refine Or.inl ⟨a, fun q hq => ?_⟩
        by_cases e : q = n
        · rw [e]; exact h
        · exact b q (by omega)
      · refine Or.inr ⟨e, a, by omega, c, fun q hq hc => ?_⟩
        by_cases e : q = n
        · rw [e] at hc; exact absurd hc h
        · exact d q (by omega) hc
theorem ar_ou {R T : Nat → Int} {N : Nat} (h : PS R N T) (v : Int) : (ou T v N = -1 → ar T N v = 0) ∧ ∀ e : Nat, ou T v N = e → ar T N v = ar T N e + 1 := by
  obtain ⟨h1, h2, h3, h4⟩ := h
  have big : ∀ q : Nat, (q : Int) < T q → T q = ((T q).toNat : Int) ∧ (T q).toNat < N ∧ q < (T q).toNat := fun q hq => by
    have := h2 q (T q).toNat (by omega)
    omega
  constructor
  · intro ho
    rcases ou_is T v N with ⟨_, b⟩ | ⟨e, a, _⟩
    · unfold ar
      rw [sm_congr (g := fun q => if q = N then 1 else 0) N (fun q hq2 => ?_), sm_one, if_neg (by omega)]
      unfold arf
      show _ = if q = N then (1 : Int) else 0
      rw [if_neg (b q hq2), if_neg (by omega)]
    · omega
  · intro e he
    rcases ou_is T v N with ⟨a, _⟩ | ⟨e', a, b, c, d⟩
    · omega
    · have : e' = e := by omega
      subst this
      have be := big e' (by omega)
      unfold ar
      have hs : sm (fun q => if q = e' then (1 : Int) else 0) N = 1 := by rw [sm_one, if_pos b]
      rw [← hs, ← sm_add]
      refine sm_congr N (fun q hq => ?_)
      unfold arf
      show (if (q : Int) < v ∧ v < T q then (1 : Int) else 0) = (if (q : Int) < e' ∧ (e' : Int) < T q then 1 else 0) + (if q = e' then 1 else 0)
      by_cases hqe : q = e'
      · subst hqe
        rw [if_pos c, if_neg (by omega), if_pos rfl]; omega
      · rw [if_neg hqe]
        by_cases hv : (q : Int) < v ∧ v < T q
        · have := d q hq hv
          have bq := big q (by omega)
          rw [if_pos hv, if_pos ⟨by omega, by omega⟩]; omega
        · rw [if_neg hv]
          by_cases hx : (q : Int) < e' ∧ (e' : Int) < T q
          · have bq := big q (by omega)
            have := h4 q (T q).toNat e' (T e').toNat bq.1 bq.2.2 be.1 be.2.2 (by omega) (by omega)
            omega
          · rw [if_neg hx]; omega
theorem ar_in {R T : Nat → Int} {N : Nat} (h : PS R N T) {o : Nat} (ho : (o : Int) < T o) : ∀ (r p : Nat), p = r → o < p → (p : Int) < T o → ar T N o + 1 ≤ ar T N p ∧ (ar T N p = ar T N o + 1 ↔ ou T p N = o) := by
  intro r
  induction r using Nat.strongRecOn with
  | ind r ih =>
    intro p hp hop hpo
    have oN : o < N := (h.2.1 o (T o).toNat (by omega)).2.2.1
    rcases ou_is T p N with ⟨_, b⟩ | ⟨e, a, b, c, d⟩
    · exact absurd ⟨by omega, hpo⟩ (b o oN)
    · have hoe := d o oN ⟨by omega, hpo⟩
      have k := (ar_ou h p).2 e a
      by_cases he : e = o
      · subst he
        exact ⟨by omega, fun _ => a, fun _ => by omega⟩
      · have := (ih e (by omega) e rfl (by omega) (by omega)).1
        exact ⟨by omega, fun _ => by omega, fun hx => by omega⟩
theorem ar_bd (T : Nat → Int) (N : Nat) (v : Int) : 0 ≤ ar T N v ∧ ar T N v ≤ N := by
  unfold ar
  refine sm_bd (fun k => ?_) N
  unfold arf
  split <;> omega
