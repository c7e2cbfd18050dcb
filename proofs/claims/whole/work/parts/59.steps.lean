/-! ===== THE REPAIR's steps ===== -/
/-- what happens to the k-th of the brackets from i up to j: -1 alone, -2 an opening one with a partner, else the role that a closing one has then -/
def pln (r : Nat → Int) (al ch : Int) : Nat → Nat → Nat → Nat → Int
  | 0, _, _, _ => -9
  | d + 1, i, j, k => if j ≤ i then -9 else if k = i then (if Wy r al ch i j = -1 then -1 else -2) else if Wy r al ch i j = -1 then pln r al ch d (i + 1) j k else if (k : Int) < Wy r al ch i j then pln r al ch d (i + 1) (Wy r al ch i j).toNat k else if (k : Int) = Wy r al ch i j then r i + 1 else pln r al ch d ((Wy r al ch i j).toNat + 1) j k
def daC (ac : Int) (r c : Nat → Int) (k : Nat) : Int := if c k = -1 then ac else if c k = -2 then -1 else if c k = r k then -1 else 2
def srC (r c : Nat → Int) (k : Nat) : Int := if c k = -1 then r k else c k
def gtC (r c : Nat → Int) (k : Nat) : Int := if c k < 0 then r k / 2 else c k / 2
def act (dr gv : Int) : Int := if gv < dr then 1 else 0
def cnt (ac : Int) (r c : Nat → Int) (n : Nat) : Int := sm (fun k => if daC ac r c k = -1 then 0 else 1) n
theorem cnt_bd (ac : Int) (r c : Nat → Int) (n : Nat) : 0 ≤ cnt ac r c n ∧ cnt ac r c n ≤ n := sm_bd (fun k => by show 0 ≤ (if daC ac r c k = -1 then (0 : Int) else 1) ∧ (if daC ac r c k = -1 then (0 : Int) else 1) ≤ 1; split <;> omega) n
theorem cnt_s0 {ac : Int} {r c : Nat → Int} {n : Nat} (h : daC ac r c n = -1) : cnt ac r c (n + 1) = cnt ac r c n := by
  show cnt ac r c n + (if daC ac r c n = -1 then (0 : Int) else 1) = _
  rw [if_pos h]; omega
theorem cnt_s1 {ac : Int} {r c : Nat → Int} {n : Nat} (h : daC ac r c n ≠ -1) : cnt ac r c (n + 1) = cnt ac r c n + 1 := by
  show cnt ac r c n + (if daC ac r c n = -1 then (0 : Int) else 1) = _
  rw [if_neg h]
theorem cnt_mono (ac : Int) (r c : Nat → Int) {p n : Nat} (h : p ≤ n) : cnt ac r c p ≤ cnt ac r c n := sm_mono (fun k => by show 0 ≤ (if daC ac r c k = -1 then (0 : Int) else 1); split <;> omega) n p h
theorem cnt_lt {ac : Int} {r c : Nat → Int} {p n : Nat} (h : p < n) (hr : daC ac r c p ≠ -1) : cnt ac r c p < cnt ac r c n := by
  have := cnt_mono ac r c (p := p + 1) (n := n) (by omega)
  rw [cnt_s1 hr] at this
  omega
/-- the class's steps of the first i brackets -/
def ST (ac : Int) (r c pl : Nat → Int) (i : Nat) (M : Mem) : Prop := M 66 11 = cnt ac r c i ∧ ∀ k : Nat, k < i → daC ac r c k ≠ -1 → M 74 (cnt ac r c k) = daC ac r c k ∧ M 75 (cnt ac r c k) = pl k ∧ M 76 (cnt ac r c k) = srC r c k
def SZ (b : Nat) (q : Int) : Prop := (b = 66 ∧ q = 11) ∨ (72 ≤ b ∧ b ≤ 76)
theorem addStep_ok (v1 v3 : Int) (i : Nat) (hi : i < 240) (M : Mem) (h0 : 0 ≤ M 66 11) (h1 : M 66 11 < 240) : Ok (f_X2_addStep v1 i v3 M) (fun M' => ∀ b q, M' b q = if b = 66 ∧ q = 11 then M 66 11 + 1 else if b = 76 ∧ q = M 66 11 then v3 else if b = 75 ∧ q = M 66 11 then M 67 i else if b = 74 ∧ q = M 66 11 then v1 else M b q) := by
  unfold f_X2_addStep
  refine .ifF (by omega) (.ifT (by omega) (.put fun M1 e1 => .ifT (by omega) ?_))
  have a1 : M1 66 11 = M 66 11 := by rw [e1, if_neg (by omega)]
  have p1 : M1 67 i = M 67 i := by rw [e1, if_neg (by omega)]
  rw [a1, p1]
  refine .ifT (by omega) (.put fun M2 e2 => ?_)
  have a2 : M2 66 11 = M 66 11 := by rw [e2, if_neg (by omega)]; exact a1
  rw [a2]
  refine .ifT (by omega) (.put fun M3 e3 => ?_)
  have a3 : M3 66 11 = M 66 11 := by rw [e3, if_neg (by omega)]; exact a2
  rw [a3, w32_of (by omega) (by omega)]
  refine .put fun M4 e4 => .ret fun b q => ?_
  rw [e4, e3, e2, e1]
theorem ST.none {ac : Int} {r c pl : Nat → Int} {i : Nat} {M M' : Mem} (h : ST ac r c pl i M) (hd : daC ac r c i = -1) (e : ∀ b q, (b = 66 ∧ q = 11) ∨ (74 ≤ b ∧ b ≤ 76) → M' b q = M b q) : ST ac r c pl (i + 1) M' := by
  refine ⟨by rw [cnt_s0 hd, e 66 11 (by omega)]; exact h.1, fun k hk hdk => ?_⟩
  by_cases ek : k = i
  · subst ek; exact absurd hd hdk
  · rw [e 74 _ (by omega), e 75 _ (by omega), e 76 _ (by omega)]
    exact h.2 k (by omega) hdk
theorem ST.one {ac : Int} {r c pl : Nat → Int} {i : Nat} {M M' : Mem} {v1 v2 v3 : Int} (h : ST ac r c pl i M) (hd : daC ac r c i ≠ -1) (h1 : v1 = daC ac r c i) (h2 : v2 = pl i) (h3 : v3 = srC r c i) (e : ∀ b q, M' b q = if b = 66 ∧ q = 11 then M 66 11 + 1 else if b = 76 ∧ q = M 66 11 then v3 else if b = 75 ∧ q = M 66 11 then v2 else if b = 74 ∧ q = M 66 11 then v1 else M b q) : ST ac r c pl (i + 1) M' := by
  obtain ⟨a, b⟩ := h
  rw [a] at e
  refine ⟨by rw [cnt_s1 hd, e, if_pos ⟨rfl, rfl⟩], fun k hk hdk => ?_⟩
  by_cases ek : k = i
  · subst ek
    refine ⟨?_, ?_, ?_⟩
    · rw [e, if_neg (by omega), if_neg (by omega), if_neg (by omega), if_pos ⟨rfl, rfl⟩]; exact h1
    · rw [e, if_neg (by omega), if_neg (by omega), if_pos ⟨rfl, rfl⟩]; exact h2
    · rw [e, if_neg (by omega), if_pos ⟨rfl, rfl⟩]; exact h3
  · have l := cnt_lt (ac := ac) (r := r) (c := c) (p := k) (n := i) (by omega) hdk
    have q := b k (by omega) hdk
    refine ⟨?_, ?_, ?_⟩
    · rw [e, if_neg (by omega), if_neg (by omega), if_neg (by omega), if_neg (by omega)]; exact q.1
    · rw [e, if_neg (by omega), if_neg (by omega), if_neg (by omega), if_neg (by omega)]; exact q.2.1
    · rw [e, if_neg (by omega), if_neg (by omega), if_neg (by omega), if_neg (by omega)]; exact q.2.2
theorem ST.same {ac : Int} {r c pl : Nat → Int} {i : Nat} {M M' : Mem} (h : ST ac r c pl i M) (e : ∀ b q, (b = 66 ∧ q = 11) ∨ (74 ≤ b ∧ b ≤ 76) → M' b q = M b q) : ST ac r c pl i M' :=
  ⟨(e 66 11 (by omega)).trans h.1, fun k hk hd => by rw [e 74 _ (by omega), e 75 _ (by omega), e 76 _ (by omega)]; exact h.2 k hk hd⟩
/-- what choosing steps rests on -/
def CH (R : Nat → Int) (N : Nat) (al ch ac : Int) (M : Mem) : Prop := GV R N M ∧ M 66 13 = al ∧ M 66 15 = ch ∧ M 66 14 = ac ∧ CT (ro R N) al ch (kk R N) M (kk R N + 1)
theorem CH.same {R : Nat → Int} {N : Nat} {al ch ac : Int} {M M' : Mem} (h : CH R N al ch ac M) (e : ∀ b q, ¬ SZ b q → M' b q = M b q) : CH R N al ch ac M' := by
  obtain ⟨h1, h2, h3, h4, h5⟩ := h
  have e' : ∀ b q, ¬ ((b = 66 ∧ q = 11) ∨ (72 ≤ b ∧ b ≤ 76)) → M' b q = M b q := e
  refine ⟨⟨(e' 66 10 (by omega)).trans h1.1, fun k hk => by rw [e' 67 _ (by omega), e' 68 _ (by omega), e' 69 _ (by omega)]; exact h1.2 k hk⟩, (e' 66 13 (by omega)).trans h2, (e' 66 15 (by omega)).trans h3, (e' 66 14 (by omega)).trans h4, fun j hj he k k0 k1 => by rw [e' 70 _ (by omega)]; exact h5 j hj he k k0 k1⟩
theorem pln_s (r : Nat → Int) (al ch : Int) {d i j k : Nat} (h : i < j) : pln r al ch (d + 1) i j k = if k = i then (if Wy r al ch i j = -1 then -1 else -2) else if Wy r al ch i j = -1 then pln r al ch d (i + 1) j k else if (k : Int) < Wy r al ch i j then pln r al ch d (i + 1) (Wy r al ch i j).toNat k else if (k : Int) = Wy r al ch i j then r i + 1 else pln r al ch d ((Wy r al ch i j).toNat + 1) j k := by
  rw [pln, if_neg (by omega)]
theorem cs40 {R : Nat → Int} {N : Nat} (hN : N ≤ 240) (hR : RB7 R) {al ch ac : Int} (ha : 0 ≤ al ∧ al ≤ 99) (hc : 0 ≤ ch ∧ ch ≤ 99) (hac : ac = 0 ∨ ac = 1) (c : Nat → Int) {Q : Mem → Prop} : ∀ (d i j : Nat), j - i ≤ d → i ≤ j → j ≤ kk R N → ∀ (fuel : Nat) (v1 : Int) (M : Mem), j - i < fuel → v1 = i → CH R N al ch ac M → ST ac (ro R N) c (fun k => plc R N k) i M → (i < j → M 72 i = j ∧ isE (ro R N) (kk R N) j) → (∀ k : Nat, i ≤ k → k < j → M 73 k = -1) → (∀ k : Nat, i ≤ k → k < j → c k = pln (ro R N) al ch d i j k) →
    (∀ (M' : Mem) (fuel' : Nat) (v : Int), fuel ≤ fuel' + (j - i) → v = j → ST ac (ro R N) c (fun k => plc R N k) j M' → (∀ k : Nat, j ≤ k → M' 73 k = M 73 k) → (∀ k : Nat, j < k → M' 72 k = M 72 k) → (∀ b q, ¬ SZ b q → M' b q = M b q) → Ok (f_X2_chooseSteps_L40 fuel' v M') Q) →
    Ok (f_X2_chooseSteps_L40 fuel v1 M) Q := by
  have hk := (kk_is R N).2
  intro d
  induction d with
  | zero =>
    intro i j hd hij hj fuel v1 M hf hv hH hS h72 h73 hcd K
    have : i = j := by omega
    subst this
    exact K M fuel v1 (by omega) hv hS (fun k _ => rfl) (fun k _ => rfl) (fun b q _ => rfl)
  | succ d ih =>
    intro i j hd hij hj fuel v1 M hf hv hH hS h72 h73 hcd K
    by_cases hlt : i < j
    · obtain ⟨hG, h13, h15, h14, hT⟩ := id hH
      obtain ⟨e72, eE⟩ := h72 hlt
      subst hv
      obtain ⟨fuel, rfl⟩ : ∃ f, fuel = f + 1 := ⟨fuel - 1, by omega⟩
      have cb := cnt_bd ac (ro R N) c i
      have gi := hG.2 i (by omega)
      have ri : ro R N i = -1 ∨ (0 ≤ ro R N i ∧ ro R N i ≤ 7) := hR _
      have ci := hcd i (Nat.le_refl _) hlt
      rw [pln_s _ _ _ hlt, if_pos rfl] at ci
      rw [f_X2_chooseSteps_L40, hG.1]
      refine .ifF (by omega) (.ifT (by omega) (.ifT (h73 i (Nat.le_refl _) hlt) (.ifT (by omega) ?_)))
      rw [e72]
      refine .bind (settle_ok hN hR ha hc (i := i) (j := j) hlt hj M hG h13 h15 (fun k k0 k1 => hT j (by omega) eE k (by omega) k1) (fun m m0 m1 m2 k k0 k1 => hT m (by omega) (Or.inr ⟨by omega, m2⟩) k (by omega) k1)) (fun p hp => .let fun w ew => ?_)
      obtain ⟨hp1, hp2⟩ := hp
      have sm' : ∀ b q, p.2 b q = M b q := fun b q => by
        rw [hp2]
        by_cases e : b = 70 ∧ q = tri j + (i : Int)
        · rw [if_pos e, e.1, e.2]; exact (hT j (by omega) eE i (by omega) (by omega)).symm
        · rw [if_neg e]
      rw [hp1] at ew
      have hS2 : ST ac (ro R N) c (fun k => plc R N k) i p.2 := hS.same (fun b q _ => sm' b q)
      rcases Cs_is (ro R N) al ch hlt with ⟨hw, _⟩ | ⟨m, hw, m0, m1, m2, m3, _⟩
      · rw [if_pos hw] at ci
        have hda : daC ac (ro R N) c i = ac := by unfold daC; rw [if_pos ci]
        refine .ifT (by omega) (.ifT (by rw [sm']; exact h73 i (Nat.le_refl _) hlt) ?_)
        refine .bind (addStep_ok (p.2 66 14) (p.2 68 i) i (by omega) p.2 (by rw [hS2.1]; omega) (by rw [hS2.1]; omega)) (fun M1 e1 => ?_)
        have hS3 : ST ac (ro R N) c (fun k => plc R N k) (i + 1) M1 := hS2.one (by rw [hda]; omega) (by rw [sm', h14, hda]) (by rw [sm']; exact gi.1) (by rw [sm', gi.2.1]; unfold srC; rw [if_pos ci]) e1
        have fr1 : ∀ b q, ¬ SZ b q → M1 b q = M b q := fun b q h => by
          unfold SZ at h
          rw [e1, if_neg (by omega), if_neg (by omega), if_neg (by omega), if_neg (by omega)]; exact sm' b q
        have e72' : M1 72 i = j := by rw [e1, if_neg (by omega), if_neg (by omega), if_neg (by omega), if_neg (by omega), sm']; exact e72
        rw [w32_of (i := (i : Int) + 1) (by omega) (by omega), e72']
        refine .ifT (by omega) (.put fun M2 e2 => .let fun u eu => ?_)
        refine ih (i + 1) j (by omega) (by omega) hj fuel u M2 (by omega) (by omega) (hH.same (fun b q h => ?_)) (hS3.same (fun b q h => by rw [e2, if_neg (by omega)])) (fun _ => ⟨by rw [e2, if_pos ⟨rfl, by omega⟩], eE⟩) (fun k k0 k1 => ?_) (fun k k0 k1 => ?_) (fun M' fuel' v hf' hv' hS' t73 t72 fr => ?_)
        · have h2 := h
          unfold SZ at h2
          rw [e2, if_neg (by omega)]; exact fr1 b q h
        · rw [e2, if_neg (by omega), e1, if_neg (by omega), if_neg (by omega), if_neg (by omega), if_neg (by omega), sm']; exact h73 k (by omega) k1
        · have := hcd k (by omega) k1
          rw [pln_s _ _ _ hlt, if_neg (by omega), if_pos hw] at this
          exact this
        · refine K M' fuel' v (by omega) hv' hS' (fun k hk' => ?_) (fun k hk' => ?_) (fun b q h => ?_)
          · rw [t73 k hk', e2, if_neg (by omega), e1, if_neg (by omega), if_neg (by omega), if_neg (by omega), if_neg (by omega), sm']
          · rw [t72 k hk', e2, if_neg (by omega), e1, if_neg (by omega), if_neg (by omega), if_neg (by omega), if_neg (by omega), sm']
          · have h2 := h
            unfold SZ at h2
            rw [fr b q h, e2, if_neg (by omega)]; exact fr1 b q h
      · rw [if_neg (by omega)] at ci
        have hda : daC ac (ro R N) c i = -1 := by unfold daC; rw [if_neg (by omega), if_pos ci]
        have mN : (Wy (ro R N) al ch i j).toNat = m := by omega
        have gm := hG.2 m (by omega)
        have rm : ro R N m = -1 ∨ (0 ≤ ro R N m ∧ ro R N m ≤ 7) := hR _
        have cm := hcd m (by omega) m1
        rw [pln_s _ _ _ hlt, if_neg (by omega), if_neg (by omega), if_neg (by omega), if_pos (by omega)] at cm
        have hwm : w = (m : Int) := by omega
        subst hwm
        refine .ifF (by omega) (.ifT (by omega) ?_)
        rw [sm' 68 i, gi.2.1, w32_of (i := ro R N i + 1) (by omega) (by omega)]
        refine .put fun M1 e1 => ?_
        rw [w32_of (i := (i : Int) + 1) (by omega) (by omega)]
        refine .ifT (by omega) (.put fun M2 e2 => ?_)
        rw [w32_of (i := (m : Int) + 1) (by omega) (by omega)]
        have e72' : M2 72 i = j := by rw [e2, if_neg (by omega), e1, if_neg (by omega), sm']; exact e72
        rw [e72']
        refine .ifT (by omega) (.put fun M3 e3 => .let fun u eu => ?_)
        have fr3 : ∀ b q, ¬ SZ b q → M3 b q = M b q := fun b q h => by
          unfold SZ at h
          rw [e3, if_neg (by omega), e2, if_neg (by omega), e1, if_neg (by omega)]; exact sm' b q
        have hS3 : ST ac (ro R N) c (fun k => plc R N k) (i + 1) M3 := hS2.none hda (fun b q h => by rw [e3, if_neg (by omega), e2, if_neg (by omega), e1, if_neg (by omega)])
        refine ih (i + 1) m (by omega) (by omega) (by omega) fuel u M3 (by omega) (by omega) (hH.same fr3) hS3 (fun _ => ⟨by rw [e3, if_neg (by omega), e2, if_pos ⟨rfl, by omega⟩], Or.inr ⟨by omega, m3⟩⟩) (fun k k0 k1 => ?_) (fun k k0 k1 => ?_) (fun M4 fuel4 v4 hf4 hv4 hS4 t73 t72 fr4 => ?_)
        · rw [e3, if_neg (by omega), e2, if_neg (by omega), e1, if_neg (by omega), sm']; exact h73 k (by omega) (by omega)
        · have := hcd k (by omega) (by omega)
          rw [pln_s _ _ _ hlt, if_neg (by omega), if_neg (by omega), if_pos (by omega), mN] at this
          exact this
        · subst hv4
          obtain ⟨fuel4, rfl⟩ : ∃ f, fuel4 = f + 1 := ⟨fuel4 - 1, by omega⟩
          have hH4 : CH R N al ch ac M4 := hH.same (fun b q h => (fr4 b q h).trans (fr3 b q h))
          have g4 := hH4.1.2 m (by omega)
          have k73 : M4 73 m = ro R N i + 1 := by rw [t73 m (Nat.le_refl _), e3, if_neg (by omega), e2, if_neg (by omega), e1, if_pos ⟨rfl, rfl⟩]
          have k72 : M4 72 ((m + 1 : Nat) : Int) = j := by rw [t72 (m + 1) (by omega), e3, if_pos ⟨rfl, by omega⟩]
          have cb4 := cnt_bd ac (ro R N) c m
          have fin : ∀ (M5 : Mem) (u : Int), u = ((m + 1 : Nat) : Int) → ST ac (ro R N) c (fun k => plc R N k) (m + 1) M5 → (∀ k : Int, M5 73 k = M4 73 k) → (∀ k : Int, M5 72 k = M4 72 k) → (∀ b q, ¬ SZ b q → M5 b q = M4 b q) → Ok (f_X2_chooseSteps_L40 fuel4 u M5) Q := by
            intro M5 u hu hS5 f73 f72 fr5
            refine ih (m + 1) j (by omega) (by omega) hj fuel4 u M5 (by omega) hu (hH4.same fr5) hS5 (fun _ => ⟨by rw [f72]; exact k72, eE⟩) (fun k k0 k1 => ?_) (fun k k0 k1 => ?_) (fun M' fuel' v hf' hv' hS' s73 s72 fr => ?_)
            · rw [f73, t73 k (by omega), e3, if_neg (by omega), e2, if_neg (by omega), e1, if_neg (by omega), sm']; exact h73 k (by omega) k1
            · have := hcd k (by omega) k1
              rw [pln_s _ _ _ hlt, if_neg (by omega), if_neg (by omega), if_neg (by omega), if_neg (by omega), mN] at this
              exact this
            · refine K M' fuel' v (by omega) hv' hS' (fun k hk' => ?_) (fun k hk' => ?_) (fun b q h => ?_)
              · rw [s73 k hk', f73, t73 k (by omega), e3, if_neg (by omega), e2, if_neg (by omega), e1, if_neg (by omega), sm']
              · rw [s72 k hk', f72, t72 k (by omega), e3, if_neg (by omega), e2, if_neg (by omega), e1, if_neg (by omega), sm']
              · rw [fr b q h, fr5 b q h, fr4 b q h]; exact fr3 b q h
          rw [f_X2_chooseSteps_L40, hH4.1.1, k73, g4.2.1]
          refine .ifF (by omega) (.ifT (by omega) (.ifF (by omega) (.ifF (by omega) (.ifC (fun hsame => .let fun x ex => ?_) (fun hsame => ?_)))))
          · rw [w32_of (by omega) (by omega)] at ex
            have hdm : daC ac (ro R N) c m = -1 := by unfold daC; rw [if_neg (by omega), if_neg (by omega), if_pos (by omega)]
            exact fin M4 x (by omega) (hS4.none hdm (fun b q _ => rfl)) (fun k => rfl) (fun k => rfl) (fun b q _ => rfl)
          · have hdm : daC ac (ro R N) c m = 2 := by unfold daC; rw [if_neg (by omega), if_neg (by omega), if_neg (by omega)]
            refine .bind (addStep_ok 2 (ro R N i + 1) m (by omega) M4 (by rw [hS4.1]; omega) (by rw [hS4.1]; omega)) (fun M5 e5 => .let fun x ex => ?_)
            rw [w32_of (by omega) (by omega)] at ex
            refine fin M5 x (by omega) (hS4.one (by rw [hdm]; decide) hdm.symm g4.1 (by unfold srC; rw [if_neg (by omega)]; exact cm.symm) e5) (fun k => ?_) (fun k => ?_) (fun b q h => ?_)
            · rw [e5, if_neg (by omega), if_neg (by omega), if_neg (by omega), if_neg (by omega)]
            · rw [e5, if_neg (by omega), if_neg (by omega), if_neg (by omega), if_neg (by omega)]
            · unfold SZ at h
              rw [e5, if_neg (by omega), if_neg (by omega), if_neg (by omega), if_neg (by omega)]
    · have : i = j := by omega
      subst this
      exact K M fuel v1 (by omega) hv hS (fun k _ => rfl) (fun k _ => rfl) (fun b q _ => rfl)
/-- what happens to each of all brackets -/
def cd (r : Nat → Int) (al ch : Int) (K k : Nat) : Int := pln r al ch K 0 K k
theorem cs7_ok {R : Nat → Int} {N : Nat} (hN : N ≤ 240) {Q : Mem → Prop} : ∀ (s fuel n : Nat) (v1 : Int) (M : Mem), kk R N - n = s → s < fuel → n ≤ kk R N → v1 = n → M 66 10 = kk R N → (∀ k : Nat, k < n → M 73 k = -1 ∧ M 72 k = kk R N) →
    (∀ M' : Mem, (∀ k : Nat, k < kk R N → M' 73 k = -1 ∧ M' 72 k = kk R N) → (∀ b q, b ≠ 72 → b ≠ 73 → M' b q = M b q) → Ok (f_X2_chooseSteps_L40 4096 0 M') Q) → Ok (f_X2_chooseSteps_L7 fuel v1 M) Q := by
  have hk := (kk_is R N).2
  intro s
  induction s with
  | zero =>
    intro fuel n v1 M hs hf hn hv h10 hb K
    obtain ⟨fuel, rfl⟩ : ∃ f, fuel = f + 1 := ⟨fuel - 1, by omega⟩
    rw [f_X2_chooseSteps_L7, h10]
    exact .ifT (by omega) (K M (fun k hk2 => hb k (by omega)) (fun b q _ _ => rfl))
  | succ s ih =>
    intro fuel n v1 M hs hf hn hv h10 hb K
    obtain ⟨fuel, rfl⟩ : ∃ f, fuel = f + 1 := ⟨fuel - 1, by omega⟩
    subst hv
    rw [f_X2_chooseSteps_L7, h10]
    refine .ifF (by omega) (.ifT (by omega) (.put fun M1 e1 => .ifT (by omega) ?_))
    have a : M1 66 10 = kk R N := by rw [e1, if_neg (by omega)]; exact h10
    rw [a]
    refine .put fun M2 e2 => .let fun u eu => ?_
    rw [w32_of (by omega) (by omega)] at eu
    refine ih fuel (n + 1) u M2 (by omega) (by omega) (by omega) (by omega) (by rw [e2, if_neg (by omega)]; exact a) (fun k hk2 => ?_) (fun M' q1 q2 => K M' q1 (fun b q h1 h2 => by rw [q2 b q h1 h2, e2, if_neg (by omega), e1, if_neg (by omega)]))
    by_cases e : k = n
    · subst e
      exact ⟨by rw [e2, if_neg (by omega), e1, if_pos ⟨rfl, rfl⟩], by rw [e2, if_pos ⟨rfl, rfl⟩]⟩
    · rw [e2, if_neg (by omega), e1, if_neg (by omega), e2, if_neg (by omega), e1, if_neg (by omega)]
      exact hb k (by omega)
theorem chooseSteps_ok {R : Nat → Int} {N : Nat} (hN : N ≤ 240) (hR : RB7 R) {al ch ac : Int} (ha : 0 ≤ al ∧ al ≤ 99) (hc : 0 ≤ ch ∧ ch ≤ 99) (hac : ac = 0 ∨ ac = 1) (M : Mem) (hH : CH R N al ch ac M) : Ok (f_X2_chooseSteps M) (fun M' => ST ac (ro R N) (cd (ro R N) al ch (kk R N)) (fun k => plc R N k) (kk R N) M' ∧ ∀ b q, ¬ SZ b q → M' b q = M b q) := by
  have hk := (kk_is R N).2
  unfold f_X2_chooseSteps
  refine .put fun M1 e1 => ?_
  refine cs7_ok (R := R) hN (kk R N) 4096 0 0 M1 (by omega) (by omega) (by omega) rfl (by rw [e1, if_neg (by omega)]; exact hH.1.1) (fun k hk => by omega) (fun M2 q1 q2 => ?_)
  have fr2 : ∀ b q, ¬ SZ b q → M2 b q = M b q := fun b q h => by
    unfold SZ at h
    rw [q2 b q (by omega) (by omega), e1, if_neg (by omega)]
  refine cs40 hN hR ha hc hac (cd (ro R N) al ch (kk R N)) (kk R N) 0 (kk R N) (by omega) (by omega) (Nat.le_refl _) 4096 0 M2 (by omega) rfl (hH.same fr2) ⟨by rw [q2 66 11 (by omega) (by omega), e1, if_pos ⟨rfl, rfl⟩]; rfl, fun k hk => by omega⟩ (fun h => ⟨(q1 0 h).2, Or.inl rfl⟩) (fun k _ k1 => (q1 k k1).1) (fun k _ _ => rfl) (fun M' fuel' v hf' hv' hS' t73 t72 fr => ?_)
  obtain ⟨fuel', rfl⟩ : ∃ f, fuel' = f + 1 := ⟨fuel' - 1, by omega⟩
  have h10 : M' 66 10 = kk R N := by rw [fr 66 10 (by unfold SZ; omega), fr2 66 10 (by unfold SZ; omega)]; exact hH.1.1
  rw [f_X2_chooseSteps_L40, h10]
  exact .ifT (by omega) (.ret ⟨hS', fun b q h => (fr b q h).trans (fr2 b q h)⟩)
