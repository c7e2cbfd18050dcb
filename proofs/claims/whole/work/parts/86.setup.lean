/-! ===== a setup is parsed: kinds, and the whole ===== -/
theorem uS_lo (sg : Nat → Int) {k a b : Int} {j : Nat} (h : (j : Int) < k) : uS sg k a b (2 * j) = sg (2 * j) ∧ uS sg k a b (2 * j + 1) = sg (2 * j + 1) := by
  unfold uS
  rw [if_neg (by omega), if_neg (by omega), if_neg (by omega), if_neg (by omega)]
  exact ⟨rfl, rfl⟩
theorem uS_hi (sg : Nat → Int) {k a b : Int} {j : Nat} (h : (j : Int) = k) : uS sg k a b (2 * j) = a ∧ uS sg k a b (2 * j + 1) = b := by
  unfold uS
  rw [if_pos (by omega), if_neg (by omega), if_pos (by omega)]
  exact ⟨rfl, rfl⟩
theorem ZsW.kind {ρ : Int → Int} {k : Int} {sg : Nat → Int} {q : Int × Int × Int × Int × Int × Int} (h : ZsW (ρ, k, sg, q)) {a b : Int} (ha : 33 ≤ a ∧ a ≤ 126) (hb : 33 ≤ b ∧ b ≤ 126) (hk : k < 4) : ZsW (uR (uR ρ a (2 * k)) b (2 * k + 1), k + 1, uS sg k a b, q) := by
  obtain ⟨z1, z2, z3, z4, z5, z6⟩ := h
  have z3 : 0 ≤ k := z3
  refine ⟨fun x => ?_, fun x hx => ?_, by show 0 ≤ k + 1; omega, by show k + 1 ≤ 4; omega, fun j hj => ?_, z6⟩
  · show uR (uR ρ a (2 * k)) b (2 * k + 1) x = -1 ∨ (0 ≤ uR (uR ρ a (2 * k)) b (2 * k + 1) x ∧ uR (uR ρ a (2 * k)) b (2 * k + 1) x < 2 * (k + 1)) ∨ (8 ≤ uR (uR ρ a (2 * k)) b (2 * k + 1) x ∧ uR (uR ρ a (2 * k)) b (2 * k + 1) x ≤ 10)
    by_cases e : x = b
    · rw [e, uR_y]; omega
    · rw [uR_n _ e]
      by_cases e2 : x = a
      · rw [e2, uR_y]; omega
      · rw [uR_n _ e2]
        have z : ρ x = -1 ∨ (0 ≤ ρ x ∧ ρ x < 2 * k) ∨ (8 ≤ ρ x ∧ ρ x ≤ 10) := z1 x
        omega
  · have hx : uR (uR ρ a (2 * k)) b (2 * k + 1) x ≠ -1 := hx
    by_cases e : x = b
    · rw [e]; exact hb
    · rw [uR_n _ e] at hx
      by_cases e2 : x = a
      · rw [e2]; exact ha
      · rw [uR_n _ e2] at hx; exact z2 x hx
  · have hj : (j : Int) < 2 * (k + 1) := hj
    show isTxt (uS sg k a b j)
    unfold uS
    by_cases e : (j : Int) = 2 * k
    · rw [if_pos e]; exact Or.inr (by omega)
    · by_cases e2 : (j : Int) = 2 * k + 1
      · rw [if_neg e, if_pos e2]; exact Or.inr (by omega)
      · rw [if_neg e, if_neg e2]; exact z5 j (by show (j : Int) < 2 * k; omega)
theorem RsM.kind {ρ : Int → Int} {k : Int} {sg : Nat → Int} {q q' : Int × Int × Int × Int × Int × Int} {M M' : Mem} (hZ : ZsW (ρ, k, sg, q)) (hk : k < 4) (h : RsM (ρ, k, sg, q) M) {a b : Int} (ha : isTxt a) (hb : isTxt b) (hab : a ≠ b) (ra : ρ a = -1) (rb : ρ b = -1) (e : ∀ x i, (x = 84 ∧ (i = 7 ∨ i = 10 ∨ i = 11 ∨ i = 12)) ∨ x = 87 ∨ x = 88 → M' x i = if x = 84 ∧ i = 7 then k + 1 else if x = 87 ∧ i = k then a else if x = 88 ∧ i = k then b else M x i) : RsM (uR (uR ρ a (2 * k)) b (2 * k + 1), k + 1, uS sg k a b, q') M' := by
  obtain ⟨h1, h2, h3⟩ := h
  have k0 : 0 ≤ k := hZ.2.2.1
  have h2 : ∀ j : Nat, (j : Int) < k → M 87 j = sg (2 * j) ∧ M 88 j = sg (2 * j + 1) := h2
  have h3 : ∀ c, isTxt c → (ρ c = 8 ↔ c = M 84 10) ∧ (ρ c = 9 ↔ c = M 84 11) ∧ (ρ c = 10 ↔ c = M 84 12) ∧ ∀ j : Nat, (j : Int) < k → (ρ c = 2 * j ↔ c = sg (2 * j)) ∧ (ρ c = 2 * j + 1 ↔ c = sg (2 * j + 1)) := h3
  have hρ : ∀ c, ρ c = -1 ∨ (0 ≤ ρ c ∧ ρ c < 2 * k) ∨ (8 ≤ ρ c ∧ ρ c ≤ 10) := hZ.1
  refine ⟨by rw [e 84 7 (by omega), if_pos ⟨rfl, rfl⟩], fun j hj => ?_, fun x hx => ?_⟩
  · have hj : (j : Int) < k + 1 := hj
    show M' 87 j = uS sg k a b (2 * j) ∧ M' 88 j = uS sg k a b (2 * j + 1)
    have e87 := e 87 j (by omega)
    have e88 := e 88 j (by omega)
    rw [if_neg (by omega)] at e87
    rw [if_neg (by omega), if_neg (by omega)] at e88
    rw [e87, e88]
    by_cases g : (j : Int) = k
    · rw [(uS_hi sg g).1, (uS_hi sg g).2, if_pos ⟨rfl, g⟩, if_pos ⟨rfl, g⟩]
      exact ⟨rfl, rfl⟩
    · rw [(uS_lo sg (by omega)).1, (uS_lo sg (by omega)).2, if_neg (by omega), if_neg (by omega), if_neg (by omega)]
      exact h2 j (by omega)
  · show (uR (uR ρ a (2 * k)) b (2 * k + 1) x = 8 ↔ x = M' 84 10) ∧ (uR (uR ρ a (2 * k)) b (2 * k + 1) x = 9 ↔ x = M' 84 11) ∧ (uR (uR ρ a (2 * k)) b (2 * k + 1) x = 10 ↔ x = M' 84 12) ∧ ∀ j : Nat, (j : Int) < k + 1 → (uR (uR ρ a (2 * k)) b (2 * k + 1) x = 2 * j ↔ x = uS sg k a b (2 * j)) ∧ (uR (uR ρ a (2 * k)) b (2 * k + 1) x = 2 * j + 1 ↔ x = uS sg k a b (2 * j + 1))
    rw [e 84 10 (by omega), e 84 11 (by omega), e 84 12 (by omega), if_neg (by omega), if_neg (by omega), if_neg (by omega), if_neg (by omega), if_neg (by omega), if_neg (by omega), if_neg (by omega), if_neg (by omega), if_neg (by omega)]
    obtain ⟨a1, a2, a3, a4⟩ := h3 x hx
    have zx := hρ x
    have val : (x = b ∧ uR (uR ρ a (2 * k)) b (2 * k + 1) x = 2 * k + 1 ∧ ρ x = -1) ∨ (x = a ∧ x ≠ b ∧ uR (uR ρ a (2 * k)) b (2 * k + 1) x = 2 * k ∧ ρ x = -1) ∨ (x ≠ a ∧ x ≠ b ∧ uR (uR ρ a (2 * k)) b (2 * k + 1) x = ρ x) := by
      by_cases e : x = b
      · exact Or.inl ⟨e, by rw [e, uR_y], by rw [e]; exact rb⟩
      · by_cases e2 : x = a
        · exact Or.inr (Or.inl ⟨e2, e, by rw [uR_n _ e, e2, uR_y], by rw [e2]; exact ra⟩)
        · exact Or.inr (Or.inr ⟨e2, e, by rw [uR_n _ e, uR_n _ e2]⟩)
    generalize uR (uR ρ a (2 * k)) b (2 * k + 1) x = w at val ⊢
    refine ⟨by omega, by omega, by omega, fun j hj => ?_⟩
    by_cases g : (j : Int) = k
    · rw [(uS_hi sg g).1, (uS_hi sg g).2]
      constructor <;> omega
    · rw [(uS_lo sg (by omega)).1, (uS_lo sg (by omega)).2]
      have := a4 j (by omega)
      constructor <;> omega
theorem p_kind {u : Int → Int} {E p : Nat} {Z : Zs} {Mc Mm : Mem} (hE : E ≤ 600) (hp : p ≤ E) (hZ : ZsW Z) (hC : ZsC u E p Z Mc) (hM : ZsM u E p Z Mm) (h : tk u E p = 4 ∧ (te u E p : Int) - ts u E p = 2) : Both (f_X7_addKind 5 (u (ts u E p)) (u ((ts u E p + 1 : Nat) : Int)) Mc) (f_X10_readKind Mm) (fun a b => (a.1 = 0 ∧ b.1 = 1 ∧ ∃ Z' : Zs, ZsW Z' ∧ Z'.2.1 = Z.2.1 + 1 ∧ ZsC u E p Z' a.2 ∧ FrPc Mc a.2 ∧ ZsM u E (te u E p) Z' b.2 ∧ FrPm Mm b.2) ∨ (BadP Mc Mm a b ∧ b.1 = 0)) := by
  obtain ⟨ρ, k, sg, q⟩ := Z
  obtain ⟨c1, c2, c3, c4⟩ := hC
  obtain ⟨m1, m2, m3, m4, m5, m6⟩ := hM
  have t := te_is u hp
  have ti := tk_is u hp h.1 (by decide) (by decide)
  have k3 : 0 ≤ k := hZ.2.2.1
  have k4 : k ≤ 4 := hZ.2.2.2.1
  have sx := (srt_4 _).mp ti.2.1
  have sy := (srt_4 _).mp (ti.2.2.2.2.2 (ts u E p + 1) (by omega) (by omega))
  have tm5 : tkm u E p = 5 := by unfold tkm; rw [if_pos h.1, if_neg (by omega)]
  have j2 : Mc 5 2 = k := c3.2.1
  have m7 : Mm 84 7 = k := m3.1
  have j6 : ∀ c, 0 ≤ c → c ≤ 126 → Mc 6 c = ρ c := c3.1
  have bt : ∀ n : Nat, ts u E p + n < E → f_X10_byteAt ((ts u E p + n : Nat) : Int) Mm = some (u ((ts u E p + n : Nat) : Int)) := fun n hn => by rw [mbyteAt_at hE m1.1 m2.1 (by omega), if_neg (by omega)]
  have b0 := bt 0 (by omega)
  have b1 := bt 1 (by omega)
  have e1 : w32 ((ts u E p : Int) + 1) = ((ts u E p + 1 : Nat) : Int) := by rw [w32_of (by omega) (by omega)]; omega
  have tx := isTold_ok hZ m3 (c := u (ts u E p)) (Or.inr (by omega))
  have ty := isTold_ok hZ m3 (c := u ((ts u E p + 1 : Nat) : Int)) (Or.inr (by omega))
  unfold f_X7_addKind f_X10_readKind
  rw [m1.2.2.2.1, m1.2.1, e1, b1, show f_X10_byteAt (ts u E p) Mm = some (u (ts u E p)) from b0]
  refine .rT tm5 (.br (Q := fun x => x = u (ts u E p)) ⟨_, rfl, rfl⟩ (fun x hx => .br (Q := fun y => y = u ((ts u E p + 1 : Nat) : Int)) ⟨_, rfl, rfl⟩ (fun y hy => ?_)))
  subst hx
  subst hy
  generalize hX : u (ts u E p) = X at sx tx ⊢
  generalize hY : u ((ts u E p + 1 : Nat) : Int) = Y at sy ty ⊢
  have bad : ∀ kk : Int, 1 ≤ kk ∧ kk ≤ 4 → ∀ {R : Int × Mem → Int × Mem → Prop}, (∀ b : Int × Mem, BadP Mc Mm (kk, Mc) b ∧ b.1 = 0 → R (kk, Mc) b) → Both (some (kk, Mc)) ((f_X10_fails kk Mm).bind fun p57 => if p57.1 = 0 ∨ p57.1 = 1 then some (p57.1, p57.2) else none) R := by
    intro kk hkk R hR
    exact Both.of (P := fun a => a = (kk, Mc)) (.ret rfl) (fails_fl kk m5) (fun a b ha hb => by subst ha; exact hR b ⟨bad_here (Z := (ρ, k, sg, q)) ⟨c1, c2, c3, c4⟩ hkk m1 hb, hb.1⟩)
  by_cases exy : X = Y
  · exact .lT exy (.rT exy (bad 3 (by omega) (fun b hb => Or.inr hb)))
  · refine .lF exy (.rF exy (.bl (P := fun r => r = ρ X) ⟨_, roleOf_at (by omega), j6 X (by omega) (by omega)⟩ (fun r hr => ?_)))
    subst hr
    have tx : Ok (f_X10_isTold X Mm) (fun z => (z = 1 ∧ ρ X ≠ -1) ∨ (z = 0 ∧ ρ X = -1)) := tx
    have ty : Ok (f_X10_isTold Y Mm) (fun z => (z = 1 ∧ ρ Y ≠ -1) ∨ (z = 0 ∧ ρ Y = -1)) := ty
    refine .br tx (fun z hz => ?_)
    by_cases rX : ρ X = -1
    · refine .lT rX (.rT (by omega) (.bl (P := fun r => r = ρ Y) ⟨_, roleOf_at (by omega), j6 Y (by omega) (by omega)⟩ (fun r hr => ?_)))
      subst hr
      refine .br ty (fun z' hz' => ?_)
      by_cases rY : ρ Y = -1
      · refine .lT rY (.rT (by omega) ?_)
        rw [j2, m7]
        by_cases hk : k < 4
        · refine .lT hk (.rF (by omega) ?_)
          rw [w32_of (i := 2 * k) (by omega) (by omega)]
          refine .lT (by omega) (.rT (by omega) ?_)
          refine Both.of (P := fun a => a.1 = 0 ∧ ∀ x i, a.2 x i = if x = 5 ∧ i = 2 then k + 1 else if x = 6 ∧ i = Y then 2 * k + 1 else if x = 6 ∧ i = X then 2 * k else if x = 7 ∧ i = 2 * k + 1 then Y else if x = 7 ∧ i = 2 * k then X else Mc x i) (Q := fun b => b.1 = 1 ∧ ∃ M4 : Mem, (∀ x i, M4 x i = if x = 84 ∧ i = 7 then k + 1 else if x = 88 ∧ i = k then Y else if x = 87 ∧ i = k then X else Mm x i) ∧ TM u E (te u E p) b.2 ∧ FrTk M4 b.2) ?_ ?_ (fun a b ⟨a1, a2⟩ ⟨b1, M4, b4, b2, b3⟩ => Or.inl ⟨a1, b1, (uR (uR ρ X (2 * k)) Y (2 * k + 1), k + 1, uS sg k X Y, q), hZ.kind (by omega) (by omega) hk, rfl, ⟨?_, fun j hj => ?_, ⟨fun c h0 h1 => ?_, ?_, fun j hj => ?_⟩, ?_⟩, fun x i hx => ?_, ⟨b2, m2.same (fun j => ?_), ?_, ?_, ?_, ?_⟩, fun x i hx => ?_⟩)
          · refine .put fun M1 e1 => ?_
            have j2a : M1 5 2 = k := by rw [e1, if_neg (by omega)]; exact j2
            rw [j2a, w32_of (i := 2 * k) (by omega) (by omega), w32_of (i := 2 * k + 1) (by omega) (by omega)]
            refine .ifT (by omega) (.put fun M2 e2 => ?_)
            have j2b : M2 5 2 = k := by rw [e2, if_neg (by omega)]; exact j2a
            rw [j2b, w32_of (i := 2 * k) (by omega) (by omega)]
            refine .bind (tell_ok (by omega) (by rw [e2, if_neg (by omega), e1, if_neg (by omega), j6 X (by omega) (by omega)]; exact rX)) (fun q3 ⟨_, e3⟩ => ?_)
            have j2c : q3.2 5 2 = k := by rw [e3, if_neg (by omega)]; exact j2b
            rw [j2c, w32_of (i := 2 * k) (by omega) (by omega), w32_of (i := 2 * k + 1) (by omega) (by omega)]
            refine .bind (tell_ok (by omega) (by rw [e3, if_neg (by omega), e2, if_neg (by omega), e1, if_neg (by omega), j6 Y (by omega) (by omega)]; exact rY)) (fun q4 ⟨_, e4⟩ => ?_)
            have j2d : q4.2 5 2 = k := by rw [e4, if_neg (by omega)]; exact j2c
            rw [j2d, w32_of (i := k + 1) (by omega) (by omega)]
            refine .put fun M5 e5 => .ret ⟨rfl, fun x i => ?_⟩
            show M5 x i = _
            rw [e5, e4, e3, e2, e1]
          · refine .put fun M1 e1 => ?_
            have m7a : M1 84 7 = k := by rw [e1, if_neg (by omega)]; exact m7
            rw [m7a]
            refine .ifT (by omega) (.put fun M2 e2 => ?_)
            have m7b : M2 84 7 = k := by rw [e2, if_neg (by omega)]; exact m7a
            rw [m7b, w32_of (i := k + 1) (by omega) (by omega)]
            refine .put fun M3 e3 => ?_
            have o : ∀ x i, M3 x i = if x = 84 ∧ i = 7 then k + 1 else if x = 88 ∧ i = k then Y else if x = 87 ∧ i = k then X else Mm x i := fun x i => by rw [e3, e2, e1]
            exact .bind (m_advance hE t.2.1 M3 (bu_same m2.1 (fun j => by rw [o, if_neg (by omega), if_neg (by omega), if_neg (by omega)])) (by rw [o, if_neg (by omega), if_neg (by omega), if_neg (by omega)]; exact m1.1) (by rw [o, if_neg (by omega), if_neg (by omega), if_neg (by omega)]; exact m1.2.2.1)) (fun M4 ⟨r1, r2⟩ => .ret ⟨rfl, M3, o, r1, r2⟩)
          · unfold TC at c1 ⊢
            rw [a2, a2, a2, a2, if_neg (by omega), if_neg (by omega), if_neg (by omega), if_neg (by omega), if_neg (by omega), if_neg (by omega), if_neg (by omega), if_neg (by omega), if_neg (by omega), if_neg (by omega), if_neg (by omega), if_neg (by omega), if_neg (by omega), if_neg (by omega), if_neg (by omega), if_neg (by omega), if_neg (by omega), if_neg (by omega), if_neg (by omega), if_neg (by omega)]
            exact c1
          · rw [a2, if_neg (by omega), if_neg (by omega), if_neg (by omega), if_neg (by omega), if_neg (by omega)]; exact c2 j hj
          · show a.2 6 c = uR (uR ρ X (2 * k)) Y (2 * k + 1) c
            rw [a2, if_neg (by omega)]
            by_cases e : c = Y
            · rw [if_pos ⟨rfl, e⟩, e, uR_y]
            · rw [if_neg (by omega), uR_n _ e]
              by_cases e2 : c = X
              · rw [if_pos ⟨rfl, e2⟩, e2, uR_y]
              · rw [if_neg (by omega), uR_n _ e2, if_neg (by omega), if_neg (by omega)]; exact j6 c h0 h1
          · rw [a2, if_pos ⟨rfl, rfl⟩]
          · have hj : (j : Int) < 2 * (k + 1) := hj
            show a.2 7 j = uS sg k X Y j
            rw [a2, if_neg (by omega), if_neg (by omega), if_neg (by omega)]
            unfold uS
            by_cases e : (j : Int) = 2 * k
            · rw [if_neg (by omega), if_pos ⟨rfl, e⟩, if_pos e]
            · by_cases e2 : (j : Int) = 2 * k + 1
              · rw [if_pos ⟨rfl, e2⟩, if_neg e, if_pos e2]
              · rw [if_neg (by omega), if_neg (by omega), if_neg e, if_neg e2]; exact c3.2.2 j (by show (j : Int) < 2 * k; omega)
          · refine NsJ.same (Z := (ρ, k, sg, q)) (M := Mc) c4 (fun i => ?_)
            rw [a2, if_neg (by omega), if_neg (by omega), if_neg (by omega), if_neg (by omega), if_neg (by omega)]
          · rw [a2, if_neg (by omega), if_neg (by omega), if_neg (by omega), if_neg (by omega), if_neg (by omega)]
          · rw [b3 91 j (by omega), b4, if_neg (by omega), if_neg (by omega), if_neg (by omega)]
          · refine RsM.kind (q := q) hZ hk m3 (Or.inr (by omega)) (Or.inr (by omega)) exy rX rY (fun x i hx => ?_)
            rw [b3 x i (by omega), b4]
            by_cases e : x = 84 ∧ i = 7
            · rw [if_pos e, if_pos e]
            · rw [if_neg e, if_neg e]
              by_cases e2 : x = 87 ∧ i = k
              · rw [if_neg (by omega), if_pos e2, if_pos e2]
              · rw [if_neg e2, if_neg e2]
          · refine NsM.same (Z := (ρ, k, sg, q)) (M := Mm) m4 (fun x i hx => ?_)
            rw [b3 x i (by omega), b4, if_neg (by omega), if_neg (by omega), if_neg (by omega)]
          · rw [b3 84 22 (by omega), b4, if_neg (by omega), if_neg (by omega), if_neg (by omega)]; exact m5
          · rw [b3 84 23 (by omega), b4, if_neg (by omega), if_neg (by omega), if_neg (by omega)]; exact m6
          · unfold PMz at hx
            rw [b3 x i (by omega), b4, if_neg (by omega), if_neg (by omega), if_neg (by omega)]
        · exact .lF hk (.rT (by omega) (bad 4 (by omega) (fun b hb => Or.inr hb)))
      · exact .lF rY (.rF (by omega) (bad 3 (by omega) (fun b hb => Or.inr hb)))
    · exact .lF rX (.rF (by omega) (bad 3 (by omega) (fun b hb => Or.inr hb)))
