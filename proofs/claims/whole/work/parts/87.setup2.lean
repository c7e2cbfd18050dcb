/-! ===== a setup is parsed: the loops ===== -/
theorem obs {α β : Type} (a : α) (f : α → Option β) : (some a).bind f = f a := rfl
theorem lts {α β : Type} (a : α) (k : α → Option β) : lt1 a k = k a := rfl
def tailC (p : Int × Mem) : Option (Int × Mem) := lt1 (p.1) fun v => if v = 0 then (f_X8_passSemicolon p.2).bind fun p76 => some (p76.1, p76.2) else some (v, p.2)
theorem p_stmt {u : Int → Int} {E p : Nat} {Z : Zs} {Mc Mm : Mem} (hE : E ≤ 600) (hp : p ≤ E) (hZ : ZsW Z) (hC : ZsC u E p Z Mc) (hM : ZsM u E p Z Mm) : ∃ X, f_X6_parseStatement Mc = X.bind tailC ∧ Both X (f_X10_readStatement Mm) (fun a b => GoodP u E p Z.2.1 Mc Mm a b ∨ BadP Mc Mm a b) := by
  obtain ⟨a1, b1, ea1, eb1, h1⟩ := p_word hE hp wd_201.2.1 hC.2.1 hC.1 hM.1 hM.2.1
  obtain ⟨a2, b2, ea2, eb2, h2⟩ := p_word hE hp wd_201.2.2.2.1 hC.2.1 hC.1 hM.1 hM.2.1
  obtain ⟨a3, b3, ea3, eb3, h3⟩ := p_word hE hp wd_201.2.2.2.2.1 hC.2.1 hC.1 hM.1 hM.2.1
  obtain ⟨a4, b4, ea4, eb4, h4⟩ := p_word hE hp wd_201.2.2.2.2.2 hC.2.1 hC.1 hM.1 hM.2.1
  have n1 : ¬ (1 : Int) = 0 := by decide
  have fl : ∀ {Y : Option (Int × Mem)} {X : Option (Int × Mem)}, Both X Y (fun a b => GoodP u E p Z.2.1 Mc Mm a b ∨ BadP Mc Mm a b) → Both X (Y.bind fun p => if p.1 = 0 ∨ p.1 = 1 then some (p.1, p.2) else none) (fun a b => GoodP u E p Z.2.1 Mc Mm a b ∨ BadP Mc Mm a b) := by
    intro Y X ⟨a, b, ea, eb, h⟩
    rw [ea, eb]
    refine Both.rT ?_ (.ret h)
    rcases h with h | h
    · exact Or.inr h.2.1
    · exact Or.inl h.2.2.1
  unfold f_X6_parseStatement f_X10_readStatement
  rw [ea1, eb1]
  show ∃ X, (if a1 = 0 then _ else _) = _ ∧ Both X (if b1 = 0 then _ else _) _
  rcases h1 with ⟨x, y, _⟩ | ⟨x, y, _⟩
  · rw [if_neg (by omega), if_neg (by omega)]
    exact ⟨_, rfl, fl (p_quote hE hp hZ hC hM)⟩
  · rw [if_pos x, if_pos y, ea2, eb2]
    show ∃ X, (if a2 = 0 then _ else _) = _ ∧ Both X (if b2 = 0 then _ else _) _
    rcases h2 with ⟨x, y, _⟩ | ⟨x, y, _⟩
    · rw [if_neg (by omega), if_neg (by omega)]
      exact ⟨_, rfl, fl (p_note hE hp hZ hC hM)⟩
    · rw [if_pos x, if_pos y, ea3, eb3]
      show ∃ X, (if a3 = 0 then _ else _) = _ ∧ Both X (if b3 = 0 then _ else _) _
      rcases h3 with ⟨x, y, _⟩ | ⟨x, y, _⟩
      · rw [if_neg (by omega), if_neg (by omega)]
        exact ⟨_, rfl, p_colours hE hp hZ hC hM⟩
      · rw [if_pos x, if_pos y, ea4, eb4]
        show ∃ X, (if a4 = 0 then _ else _) = _ ∧ Both X (if b4 = 0 then _ else _) _
        rcases h4 with ⟨x, y, _⟩ | ⟨x, y, _⟩
        · rw [if_neg (by omega), if_neg (by omega)]
          exact ⟨_, rfl, p_costs hE hp hZ hC hM⟩
        · rw [if_pos x, if_pos y]
          exact ⟨some (1, Mc), rfl, Both.of (P := fun a => a = ((1 : Int), Mc)) (.ret rfl) (fails_fl 1 hM.2.2.2.2.1) (fun a b ha hb => by subst ha; exact Or.inr (bad_here hC (by omega) hM.1 hb))⟩
/-- what follows when all is told, or when it failed -/
def KonP (u : Int → Int) (E : Nat) (Mc0 Mm0 : Mem) (S : Int × Mem → Int × Mem → Prop) : Prop := (∀ (p : Nat) (Z : Zs) (Ma Mb : Mem), ZsW Z → 1 ≤ Z.2.1 → ZsC u E p Z Ma → ZsM u E p Z Mb → FrPc Mc0 Ma → FrPm Mm0 Mb → Both (some ((0 : Int), Ma)) (f_X10_setup_K162 1 Mb) S) ∧ ∀ (k : Int) (Ma Mb : Mem), 1 ≤ k → k ≤ 4 → Mb 84 22 = k → Mb 84 23 = Ma 3 2 → FrPc Mc0 Ma → FrPm Mm0 Mb → S (k, Ma) (k, Mb)
theorem L27_dead {n : Nat} {v w : Int} {M : Mem} (h : v ≠ 0) : f_X6_parse_L27 (n + 1) v w M = some (v, M) := by
  rw [f_X6_parse_L27]
  by_cases g : 600 ≤ w
  · rw [if_pos g]
  · rw [if_neg g, if_neg h]
theorem L128_dead (n : Nat) (M : Mem) : f_X10_setup_L128 (n + 1) 0 M = some (M 84 22, M) := by
  rw [f_X10_setup_L128, if_pos rfl]
  unfold f_X10_setup_K162
  rw [if_pos rfl]
theorem L91_dead (n : Nat) (M : Mem) : f_X10_setup_L91 (n + 1) 0 M = some (M 84 22, M) := by
  rw [f_X10_setup_L91, if_pos rfl]
  unfold f_X10_setup_K111
  rw [if_pos rfl]
  exact L128_dead 4095 M
theorem dead_both {u : Int → Int} {E : Nat} {Mc0 Mm0 Mc Mm : Mem} {S : Int × Mem → Int × Mem → Prop} (K : KonP u E Mc0 Mm0 S) {a b : Int × Mem} (h : BadP Mc Mm a b) (hc : FrPc Mc0 Mc) (hm : FrPm Mm0 Mm) : S (a.1, a.2) (b.2 84 22, b.2) := by
  obtain ⟨x1, x2, x3, x4, x5, x6, x7⟩ := h
  rw [x4]
  exact K.2 a.1 a.2 b.2 x1 x2 x4 x5 (hc.trans x6) (hm.trans x7)
theorem setup_L {u : Int → Int} {E : Nat} {Mc0 Mm0 : Mem} {S : Int × Mem → Int × Mem → Prop} (hE : E ≤ 600) (K : KonP u E Mc0 Mm0 S) : ∀ (r fc fm n p : Nat) (Z : Zs) (Ma Mb : Mem), E - p < r → r < fc → r < fm → n ≤ p → p ≤ E → ZsW Z → 1 ≤ Z.2.1 → ZsC u E p Z Ma → ZsM u E p Z Mb → FrPc Mc0 Ma → FrPm Mm0 Mb → Both (f_X6_parse_L27 fc 0 n Ma) (f_X10_setup_L128 fm 1 Mb) S := by
  intro r
  induction r with
  | zero => intro fc fm n p Z Ma Mb h; omega
  | succ r ih =>
    intro fc fm n p Z Ma Mb hr hfc hfm hn hp hZ hk hC hM fa fb
    obtain ⟨fc, rfl⟩ : ∃ f, fc = f + 1 := ⟨fc - 1, by omega⟩
    obtain ⟨fm, rfl⟩ : ∃ f, fm = f + 1 := ⟨fm - 1, by omega⟩
    have s := ts_is u hp
    have k0 := tk_0 u hp
    have km : tkm u E p = 0 ↔ tk u E p = 0 := by unfold tkm; split <;> (try split) <;> omega
    rw [f_X6_parse_L27, f_X10_setup_L128, hM.1.2.2.2.1]
    have fin := K.1 p Z Ma Mb hZ hk hC hM fa fb
    by_cases h6 : (600 : Int) ≤ n
    · exact .lT h6 (.rF (by decide) (.rT (km.mpr (k0.mpr (by omega))) fin))
    · refine .lF h6 (.lT rfl ?_)
      unfold f_X8_isEnd
      rw [hC.1.2.2.2]
      by_cases h0 : tk u E p = 0
      · rw [if_pos h0]
        exact .bl (P := fun z => z = 1) ⟨_, rfl, rfl⟩ (fun z hz => .lF (by omega) (.rF (by decide) (.rT (km.mpr h0) fin)))
      · rw [if_neg h0]
        refine .bl (P := fun z => z = 0) ⟨_, rfl, rfl⟩ (fun z hz => .lT hz (.rF (by decide) (.rF (fun x => h0 (km.mp x)) ?_)))
        obtain ⟨X, eX, a, b, ea, eb, hab⟩ := p_stmt hE hp hZ hC hM
        rw [eX, ea, eb, obs, obs]
        rcases hab with hg | hb
        · obtain ⟨g1, g2, ⟨p1, Z1, q1, q2, q3, q4, q5, q6⟩, g3, g4⟩ := hg
          obtain ⟨a', b', ea', eb', hab'⟩ := p_semi hE q2 q3 q5 q6
          have et : tailC a = some a' := by
            unfold tailC
            show (if a.1 = 0 then _ else _) = _
            rw [if_pos g1, ea']
            rfl
          rw [et, obs, if_neg (by omega), eb', obs]
          rcases hab' with hg' | hb'
          · obtain ⟨g1', g2', ⟨p2, Z2, q1', q2', q3', q4', q5', q6'⟩, g3', g4'⟩ := hg'
            rw [if_neg (by omega)]
            refine .ll (.ll ?_)
            rw [g1', w32_of (by omega) (by omega)]
            exact ih fc fm (n + 1) p2 Z2 a'.2 b'.2 (by omega) (by omega) (by omega) (by omega) q2' q3' (by rw [q4', q4]; exact hk) q5' q6' ((fa.trans g3).trans g3') ((fb.trans g4).trans g4')
          · have d := dead_both K hb' (fa.trans g3) (fb.trans g4)
            rw [if_pos hb'.2.2.1]
            obtain ⟨fc, rfl⟩ : ∃ f, fc = f + 1 := ⟨fc - 1, by omega⟩
            obtain ⟨fm, rfl⟩ : ∃ f, fm = f + 1 := ⟨fm - 1, by omega⟩
            refine .ll (.ll ?_)
            rw [L27_dead (by have := hb'.1; omega), L128_dead]
            exact .ret d
        · have d := dead_both K hb fa fb
          have et : tailC a = some a := by
            unfold tailC
            show (if a.1 = 0 then _ else _) = _
            rw [if_neg (by have := hb.1; omega)]
          rw [et, obs, if_pos hb.2.2.1]
          obtain ⟨fc, rfl⟩ : ∃ f, fc = f + 1 := ⟨fc - 1, by omega⟩
          obtain ⟨fm, rfl⟩ : ∃ f, fm = f + 1 := ⟨fm - 1, by omega⟩
          refine .ll (.ll ?_)
          rw [L27_dead (by have := hb.1; omega), L128_dead]
          exact .ret d
theorem kinds_L {u : Int → Int} {E : Nat} {Mc0 Mm0 : Mem} {S : Int × Mem → Int × Mem → Prop} (hE : E ≤ 600) (K : KonP u E Mc0 Mm0 S) : ∀ (r fc fm j p : Nat) (Z : Zs) (Ma Mb : Mem), 5 - j = r → r < fc → r < fm → p ≤ E → ZsW Z → Z.2.1 = j → 1 ≤ j → ZsC u E p Z Ma → ZsM u E p Z Mb → FrPc Mc0 Ma → FrPm Mm0 Mb → Both ((f_X6_parseKinds_L12 fc j Ma).bind fun p21 => lt1 (p21.1) fun v2 => f_X6_parse_L27 4096 v2 0 p21.2) (f_X10_setup_L91 fm 1 Mb) S := by
  intro r
  induction r with
  | zero => intro fc fm j p Z Ma Mb h1 h2 h3 h4 hZ hj; have := hZ.2.2.2.1; omega
  | succ r ih =>
    intro fc fm j p Z Ma Mb hr hfc hfm hp hZ hj hk hC hM fa fb
    obtain ⟨fc, rfl⟩ : ∃ f, fc = f + 1 := ⟨fc - 1, by omega⟩
    obtain ⟨fm, rfl⟩ : ∃ f, fm = f + 1 := ⟨fm - 1, by omega⟩
    have t := te_is u hp
    have z4 := hZ.2.2.2.1
    have n1 : ¬ (1 : Int) = 0 := by decide
    rw [f_X6_parseKinds_L12, f_X10_setup_L91, hM.1.2.2.2.1, if_neg (by omega), isSigns_at hE hp hC.1, if_neg n1]
    by_cases h : tk u E p = 4 ∧ (te u E p : Int) - ts u E p = 2
    · have ti := tk_is u hp h.1 (by decide) (by decide)
      have tm5 : tkm u E p = 5 := by unfold tkm; rw [if_pos h.1, if_neg (by omega)]
      rw [if_pos h, if_neg (by omega)]
      obtain ⟨a, b, ea, eb, hab⟩ := p_kind hE hp hZ hC hM h
      have sg0 := signAt_at hE hC.1 hC.2.1 (v := 0) (n := 0) rfl ti.1
      have ea : f_X7_addKind 5 (u ((ts u E p + 0 : Nat) : Int)) (u ((ts u E p + 1 : Nat) : Int)) Ma = some a := ea
      rw [obs, if_neg n1, sg0, signAt_at hE hC.1 hC.2.1 (v := 1) (n := 1) rfl (by omega), obs, obs, ea, eb, obs, obs]
      rcases hab with ⟨a1, b1, Z1, q1, q2, q3, q4, q5, q6⟩ | ⟨hb, _⟩
      · obtain ⟨Mx, ex, q3', fx, _⟩ := q3.move hE hp
        rw [lts, if_pos a1, ex, obs, lts, lts, b1, w32_of (by omega) (by omega)]
        exact ih fc fm (j + 1) (te u E p) Z1 Mx b.2 (by omega) (by omega) (by omega) t.2.1 q1 (by omega) (by omega) q3' q5 ((fa.trans q4).trans fx) (fb.trans q6)
      · have d := dead_both K hb fa fb
        obtain ⟨fm, rfl⟩ : ∃ f, fm = f + 1 := ⟨fm - 1, by omega⟩
        rw [lts, if_neg (by have := hb.1; omega), obs, lts, lts, hb.2.2.1, L91_dead, show (4096 : Nat) = 4095 + 1 from rfl]
        have e := L27_dead (n := 4095) (v := a.1) (w := 0) (M := a.2) (by have := hb.1; omega)
        exact ⟨_, _, e, rfl, d⟩
    · rw [if_neg h]
      rw [obs, if_pos rfl]
      have km3 : tkm u E p = 3 ↔ tk u E p = 3 := by unfold tkm; split <;> (try split) <;> omega
      obtain ⟨a', b', ea', eb', hab'⟩ := p_semi hE hp hZ hC hM
      have ea3 : ((f_X8_passSemicolon Ma).bind fun p60 => some (p60.1, p60.2)) = some a' := by rw [ea']; rfl
      rw [ea3, obs, lts]
      by_cases h3 : tk u E p = 3
      · rw [if_pos (km3.mpr h3)]
        unfold f_X10_setup_K111
        rw [if_neg n1, eb', obs]
        rcases hab' with hg' | hb'
        · obtain ⟨g1', g2', ⟨p2, Z2, q1', q2', q3', q4', q5', q6'⟩, g3', g4'⟩ := hg'
          rw [if_neg (by omega), g1']
          exact setup_L hE K 602 4096 4096 0 p2 Z2 a'.2 b'.2 (by omega) (by omega) (by omega) (by omega) q2' q3' (by omega) q5' q6' (fa.trans g3') (fb.trans g4')
        · have d := dead_both K hb' fa fb
          rw [if_pos hb'.2.2.1, show (4096 : Nat) = 4095 + 1 from rfl, L27_dead (by have := hb'.1; omega), L128_dead]
          exact .ret d
      · rw [if_neg (fun x => h3 (km3.mp x))]
        have hcl : f_X8_passSemicolon Ma = some (1, Ma) := by
          unfold f_X8_passSemicolon
          rw [hC.1.2.2.2, if_neg h3]
        have ea2 : a' = (1, Ma) := by rw [hcl] at ea'; exact (Option.some.inj ea').symm
        have nk : tkm u E p ≠ 5 := by
          intro x
          have tr := tk_rng u hp
          unfold tkm at x
          by_cases g : tk u E p = 4
          · rw [if_pos g] at x
            have ti := tk_is u hp g (by decide) (by decide)
            have l4 : lng 4 = 2 := by decide
            split at x <;> omega
          · rw [if_neg g] at x; omega
        obtain ⟨b, eb, hb⟩ : Ok (f_X10_readKind Mb) (fun b => b.1 = 0 ∧ b.2 84 22 = 1 ∧ b.2 84 23 = Mb 84 18 ∧ ∀ c i, ¬ (c = 84 ∧ (i = 22 ∨ i = 23)) → b.2 c i = Mb c i) := by
          unfold f_X10_readKind
          exact .ifF (by rw [hM.1.2.2.2.1]; exact nk) (fails_fl 1 hM.2.2.2.2.1)
        have d := dead_both K (bad_here hC (k := 1) (by omega) hM.1 hb) fa fb
        obtain ⟨fm, rfl⟩ : ∃ f, fm = f + 1 := ⟨fm - 1, by omega⟩
        rw [eb, ea2, obs, lts, hb.1, L91_dead]
        exact ⟨_, _, L27_dead (n := 4095) (v := 1) (w := 0) (M := Ma) n1, rfl, d⟩
