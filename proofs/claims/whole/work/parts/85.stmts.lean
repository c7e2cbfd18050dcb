/-! ===== a setup is parsed: the statements ===== -/
def uR (ρ : Int → Int) (c r : Int) : Int → Int := fun x => if x = c then r else ρ x
def uS (sg : Nat → Int) (k a b : Int) : Nat → Int := fun n => if (n : Int) = 2 * k then a else if (n : Int) = 2 * k + 1 then b else sg n
theorem uR_y (ρ : Int → Int) (c r : Int) : uR ρ c r c = r := if_pos rfl
theorem uR_n (ρ : Int → Int) {c r x : Int} (h : x ≠ c) : uR ρ c r x = ρ x := if_neg h
theorem ZsW.told {ρ : Int → Int} {k : Int} {sg : Nat → Int} {hq hn : Int} {rest : Int × Int × Int × Int} (h : ZsW (ρ, k, sg, hq, hn, rest)) {c r : Int} (hc : 33 ≤ c ∧ c ≤ 126) (hr : 8 ≤ r ∧ r ≤ 10) {hq' hn' : Int} (h1 : hq' = 0 ∨ hq' = 1) (h2 : hn' = 0 ∨ hn' = 1) : ZsW (uR ρ c r, k, sg, hq', hn', rest) := by
  obtain ⟨z1, z2, z3, z4, z5, z6, z7, z8⟩ := h
  refine ⟨fun x => ?_, fun x hx => ?_, z3, z4, z5, h1, h2, z8⟩
  · show uR ρ c r x = -1 ∨ (0 ≤ uR ρ c r x ∧ uR ρ c r x < 2 * k) ∨ (8 ≤ uR ρ c r x ∧ uR ρ c r x ≤ 10)
    by_cases e : x = c
    · rw [e, uR_y]; exact Or.inr (Or.inr hr)
    · rw [uR_n ρ e]; exact z1 x
  · have hx : uR ρ c r x ≠ -1 := hx
    by_cases e : x = c
    · rw [e]; exact hc
    · rw [uR_n ρ e] at hx; exact z2 x hx
theorem RsM.told {ρ : Int → Int} {k : Int} {sg : Nat → Int} {q q' : Int × Int × Int × Int × Int × Int} {M M' : Mem} (hk : 0 ≤ k ∧ k ≤ 4) (h : RsM (ρ, k, sg, q) M) {c r f : Int} (hc : isTxt c) (hr : ρ c = -1) (hf : M 84 f = -1) (hrf : (r = 8 ∧ f = 10) ∨ (r = 9 ∧ f = 11) ∨ (r = 10 ∧ f = 12)) (e : ∀ x i, (x = 84 ∧ (i = 7 ∨ i = 10 ∨ i = 11 ∨ i = 12)) ∨ x = 87 ∨ x = 88 → M' x i = if x = 84 ∧ i = f then c else M x i) : RsM (uR ρ c r, k, sg, q') M' := by
  obtain ⟨h1, h2, h3⟩ := h
  have h1 : M 84 7 = k := h1
  have h3 : ∀ c, isTxt c → (ρ c = 8 ↔ c = M 84 10) ∧ (ρ c = 9 ↔ c = M 84 11) ∧ (ρ c = 10 ↔ c = M 84 12) ∧ ∀ j : Nat, (j : Int) < k → (ρ c = 2 * j ↔ c = sg (2 * j)) ∧ (ρ c = 2 * j + 1 ↔ c = sg (2 * j + 1)) := h3
  have tm : ∀ x, isTxt x → x ≠ -1 := fun x hx => by unfold isTxt at hx; omega
  refine ⟨by rw [e 84 7 (by omega), if_neg (by omega)]; exact h1, fun j hj => by rw [e 87 _ (by omega), if_neg (by omega), e 88 _ (by omega), if_neg (by omega)]; exact h2 j hj, fun x hx => ?_⟩
  show (uR ρ c r x = 8 ↔ x = M' 84 10) ∧ (uR ρ c r x = 9 ↔ x = M' 84 11) ∧ (uR ρ c r x = 10 ↔ x = M' 84 12) ∧ ∀ j : Nat, (j : Int) < k → (uR ρ c r x = 2 * j ↔ x = sg (2 * j)) ∧ (uR ρ c r x = 2 * j + 1 ↔ x = sg (2 * j + 1))
  obtain ⟨a1, a2, a3, a4⟩ := h3 x hx
  obtain ⟨b1, b2, b3, b4⟩ := h3 c hc
  have nx := tm x hx
  rw [e 84 10 (by omega), e 84 11 (by omega), e 84 12 (by omega)]
  by_cases ec : x = c
  · subst ec
    rw [uR_y]
    refine ⟨?_, ?_, ?_, fun j hj => ?_⟩
    · split <;> omega
    · split <;> omega
    · split <;> omega
    · have := b4 j hj
      omega
  · rw [uR_n ρ ec]
    refine ⟨?_, ?_, ?_, fun j hj => a4 j hj⟩
    · by_cases g : f = 10
      · rw [if_pos ⟨rfl, g.symm⟩]; subst g; omega
      · rw [if_neg (by omega)]; exact a1
    · by_cases g : f = 11
      · rw [if_pos ⟨rfl, g.symm⟩]; subst g; omega
      · rw [if_neg (by omega)]; exact a2
    · by_cases g : f = 12
      · rw [if_pos ⟨rfl, g.symm⟩]; subst g; omega
      · rw [if_neg (by omega)]; exact a3
/-- words of both -/
def WdE (o o' : Nat) : Prop := slen o = slen o' ∧ 1 ≤ slen o' ∧ slen o' ≤ 20 ∧ ∀ i ∈ List.range 20, (i : Int) < slen o' → sch o i = sch o' i ∧ 0 ≤ sch o' i ∧ sch o' i < 128
theorem p_word {u : Int → Int} {E p o o' : Nat} {Mc Mm : Mem} (hE : E ≤ 600) (hp : p ≤ E) (hw : WdE o o') (hu : ∀ j : Nat, j < E → Mc 2 j = u j) (hC : TC u E p Mc) (hM : TM u E p Mm) (hB : Bt u E Mm) : Both (f_X8_isWord o Mc) (f_X10_isWord o' Mm) (fun a b => (a = 1 ∧ b = 1 ∧ wis u E p o) ∨ (a = 0 ∧ b = 0 ∧ ¬ wis u E p o)) := by
  obtain ⟨w1, w2, w3, w4⟩ := hw
  have eq : wis u E p o ↔ wis u E p o' := by
    unfold wis
    rw [w1]
    refine ⟨fun ⟨a, b, c⟩ => ⟨a, b, fun i hi => ?_⟩, fun ⟨a, b, c⟩ => ⟨a, b, fun i hi => ?_⟩⟩
    · rw [← (w4 i (List.mem_range.mpr (by omega)) hi).1]; exact c i hi
    · rw [(w4 i (List.mem_range.mpr (by omega)) hi).1]; exact c i hi
  refine Both.of (c_isWord hE hp hu hC) (m_isWord hE hp hB.2.2 hB.1 hB.2.1 hM ⟨w2, w3⟩ (fun i hi => (w4 i (List.mem_range.mpr (by omega)) hi).2)) (fun a b ha hb => ?_)
  rcases ha with ⟨a1, a2⟩ | ⟨a1, a2⟩
  · rcases hb with ⟨b1, b2⟩ | ⟨b1, b2⟩
    · exact Or.inl ⟨a1, b1, a2⟩
    · exact absurd (eq.mp a2) b2
  · rcases hb with ⟨b1, b2⟩ | ⟨b1, b2⟩
    · exact absurd (eq.mpr b2) a2
    · exact Or.inr ⟨a1, b1, a2⟩
theorem p_note {u : Int → Int} {E p : Nat} {Z : Zs} {Mc Mm : Mem} (hE : E ≤ 600) (hp : p ≤ E) (hZ : ZsW Z) (hC : ZsC u E p Z Mc) (hM : ZsM u E p Z Mm) : Both (f_X6_parseNote Mc) (f_X10_readNotes Mm) (fun a b => GoodP u E p Z.2.1 Mc Mm a b ∨ BadP Mc Mm a b) := by
  obtain ⟨ρ, k, sg, hq, hn, rest⟩ := Z
  obtain ⟨c1, c2, c3, c4⟩ := hC
  obtain ⟨m1, m2, m3, m4, m5, m6⟩ := hM
  have t := te_is u hp
  have s := ts_is u hp
  have k3 : 0 ≤ k := hZ.2.2.1
  have k4 : k ≤ 4 := hZ.2.2.2.1
  have j6 : Mc 4 6 = hn := c4.2.1
  have n12 : hn = 0 ↔ Mm 84 12 = -1 := m4.2.1
  unfold f_X6_parseNote f_X10_readNotes
  by_cases h : hn = 0
  · refine .lT (by omega) (.rT (by omega) (.pl fun M1 e1 => .bl (c_moveOn (u := u) hE t.2.1 M1 (fun j hj => by rw [e1, if_neg (by omega)]; exact c2 j hj) (by rw [e1, if_neg (by omega)]; exact c1.1) (by rw [e1, if_neg (by omega)]; exact c1.2.2.1)) (fun M2 ⟨a2, b2⟩ => .br (starts_go 4 (m_advance hE t.2.1 Mm m2.1 m1.1 m1.2.2.1)) (fun q ⟨q1, q2, q3⟩ => .rF (by omega) ?_))))
    have o2 : ∀ x i, x ≠ 3 → ¬ (x = 4 ∧ i = 6) → M2 x i = Mc x i := fun x i h1 h2 => by rw [b2 x i h1, e1, if_neg h2]
    refine .bind (p_sign 10 (Mm := q.2) hE t.2.1 hZ (fun j hj => by rw [o2 2 j (by omega) (by omega)]; exact c2 j hj) a2 (fun c h0 h1 => (o2 6 c (by omega) (by omega)).trans (c3.1 c h0 h1)) q2 (m2.same (fun j => q3 91 j (by omega))) (m3.same (fun c i hc => q3 c i (by omega))) ((q3 84 22 (by omega)).trans m5)) (fun a b hab => ?_)
    rcases hab with ⟨x1, x2, c, y0, y1, y2, y3, y4, y5, y6, y7, y8, y9, y10⟩ | ⟨x1, x2, x3, x4, x5, x6⟩
    · refine .rF (by omega) (.pr fun M5 e5 => .ret (Or.inl ⟨x1, rfl, ⟨te u E (te u E p), (uR ρ c 10, k, sg, hq, 1, rest), by omega, y4, hZ.told ⟨y0, y1⟩ (by omega) hZ.2.2.2.2.2.1 (Or.inr rfl), rfl, ⟨y5, fun j hj => by rw [y7 2 j (by omega) (by omega), o2 2 j (by omega) (by omega)]; exact c2 j hj, ⟨fun x h0 h1 => ?_, ?_, fun j hj => ?_⟩, ?_⟩, ⟨?_, m2.same (fun j => ?_), ?_, ?_, ?_, ?_⟩⟩, fun x i hx => ?_, fun x i hx => ?_⟩))
      · show a.2 6 x = uR ρ c 10 x
        by_cases e : x = c
        · rw [e, uR_y]; exact y6
        · rw [uR_n ρ e, y7 6 x (by omega) (by omega), o2 6 x (by omega) (by omega)]; exact c3.1 x h0 h1
      · rw [y7 5 2 (by omega) (by omega), o2 5 2 (by omega) (by omega)]; exact c3.2.1
      · rw [y7 7 _ (by omega) (by omega), o2 7 _ (by omega) (by omega)]; exact c3.2.2 j hj
      · unfold NsJ
        rw [y7 4 1 (by omega) (by omega), y7 4 2 (by omega) (by omega), y7 4 3 (by omega) (by omega), y7 4 4 (by omega) (by omega), y7 4 5 (by omega) (by omega), y7 4 6 (by omega) (by omega), o2 4 1 (by omega) (by omega), o2 4 2 (by omega) (by omega), o2 4 3 (by omega) (by omega), o2 4 4 (by omega) (by omega), o2 4 5 (by omega) (by omega), b2 4 6 (by omega), e1 4 6, if_pos ⟨rfl, rfl⟩]
        exact ⟨c4.1, rfl, c4.2.2⟩
      · show TM u E (te u E (te u E p)) M5
        unfold TM at y8 ⊢
        rw [e5, if_neg (by omega), e5, if_neg (by omega), e5, if_neg (by omega), e5, if_neg (by omega), e5, if_neg (by omega)]
        exact y8
      · show M5 91 j = Mm 91 j
        rw [e5, if_neg (by omega), y10 91 j (by omega), q3 91 j (by omega)]
      · refine RsM.told (q := (hq, hn, rest)) ⟨k3, k4⟩ (m3.same (M' := q.2) (fun c i hc => q3 c i (by omega))) (Or.inr (by omega)) y2 (f := 12) (by rw [q3 84 12 (by omega)]; exact n12.mp h) (by omega) (fun x i hx => ?_)
        show M5 x i = _
        rw [e5, y9, y10 x i (by omega)]
      · have o : ∀ x i, (x = 84 ∧ (i = 10 ∨ i = 11)) ∨ x = 89 → M5 x i = Mm x i := fun x i hx => by rw [e5, if_neg (by omega), y10 x i (by omega), q3 x i (by omega)]
        have e12 : M5 84 12 = c := by rw [e5, if_pos ⟨rfl, rfl⟩]; exact y9
        show NsM _ M5
        unfold NsM
        rw [o 84 10 (by omega), o 84 11 (by omega), e12, o 89 10 (by omega), o 89 11 (by omega), o 89 12 (by omega), o 89 13 (by omega), o 89 0 (by omega), o 89 1 (by omega)]
        exact ⟨m4.1, ⟨fun x => absurd x (by show ¬ (1 : Int) = 0; decide), fun x => by omega⟩, m4.2.2⟩
      · show M5 84 22 = 0
        rw [e5, if_neg (by omega), y10 84 22 (by omega), q3 84 22 (by omega)]; exact m5
      · show M5 84 23 = -1
        rw [e5, if_neg (by omega), y10 84 23 (by omega), q3 84 23 (by omega)]; exact m6
      · show a.2 x i = Mc x i
        rw [y7 x i (by omega) (by omega), o2 x i (by omega) (by omega)]
      · show M5 x i = Mm x i
        unfold PMz at hx
        rw [e5, if_neg (by omega), y10 x i (by omega), q3 x i (by omega)]
    · refine .rT x3 (.ret (Or.inr ⟨by show 1 ≤ a.1; omega, by show a.1 ≤ 4; omega, rfl, x4, ?_, fun x i hx => ?_, fun x i hx => ?_⟩))
      · show b.2 84 23 = a.2 3 2
        rw [x5, x2]
      · show a.2 x i = Mc x i
        rw [x2, o2 x i (by omega) (by omega)]
      · show b.2 x i = Mm x i
        unfold PMz at hx
        rw [x6 x i (by omega), q3 x i (by omega)]
  · refine .lF (by omega) (.rF (by omega) (.br (starts_no 4 m5) (fun b hb => .rT hb.1 (.ret (Or.inr ?_)))))
    exact bad_here (Z := (ρ, k, sg, hq, hn, rest)) ⟨c1, c2, c3, c4⟩ (by omega) m1 (r := (0, b.2)) ⟨rfl, hb.2⟩
theorem wd_201 : WdE 201 228 ∧ WdE 202 229 ∧ WdE 203 230 ∧ WdE 204 231 ∧ WdE 205 232 ∧ WdE 206 233 := by unfold WdE; decide +kernel

/-- after a sign: all stands again -/
theorem sign_done {u : Int → Int} {E p : Nat} {ρ : Int → Int} {k : Int} {sg : Nat → Int} {q q' : Int × Int × Int × Int × Int × Int} {r f : Int} {M2 Mq : Mem} {a b : Int × Mem} (hk : 0 ≤ k ∧ k ≤ 4) (hrf : (r = 8 ∧ f = 10) ∨ (r = 9 ∧ f = 11) ∨ (r = 10 ∧ f = 12)) (hu : ∀ j : Nat, j < E → M2 2 j = u j) (hJ : RsJ (ρ, k, sg, q) M2) (hN : NsJ (ρ, k, sg, q') M2) (hB : Bt u E Mq) (hR : RsM (ρ, k, sg, q) Mq) (hf : Mq 84 f = -1) (h22 : Mq 84 22 = 0) (h23 : Mq 84 23 = -1) (g : GoodS u E p (ρ, k, sg, q) r M2 Mq a b) (hM : ∀ (c : Int) (M5 : Mem), c ≠ -1 → (∀ x i, (x = 84 ∧ (i = 10 ∨ i = 11 ∨ i = 12)) ∨ x = 89 → M5 x i = if x = 84 ∧ i = f then c else Mq x i) → NsM (ρ, k, sg, q') M5) : ∃ c : Int, 33 ≤ c ∧ c ≤ 126 ∧ p < te u E p ∧ te u E p ≤ E ∧ ZsC u E (te u E p) (uR ρ c r, k, sg, q') a.2 ∧ (∀ x i, x ≠ 3 → x ≠ 6 → a.2 x i = M2 x i) ∧ ∀ M5 : Mem, (∀ x i, M5 x i = if x = 84 ∧ i = f then b.2 84 24 else b.2 x i) → ZsM u E (te u E p) (uR ρ c r, k, sg, q') M5 ∧ ∀ x i, ¬ (x = 84 ∧ ((18 ≤ i ∧ i ≤ 21) ∨ i = 24 ∨ i = f)) → M5 x i = Mq x i := by
  obtain ⟨x1, x2, c, y0, y1, y2, y3, y4, y5, y6, y7, y8, y9, y10⟩ := g
  refine ⟨c, y0, y1, y3, y4, ⟨y5, fun j hj => by rw [y7 2 j (by omega) (by omega)]; exact hu j hj, ⟨fun x h0 h1 => ?_, ?_, fun j hj => ?_⟩, ?_⟩, fun x i h3 h6 => y7 x i h3 (by omega), fun M5 e5 => ⟨⟨?_, hB.same (fun j => ?_), ?_, ?_, ?_, ?_⟩, fun x i hx => ?_⟩⟩
  · show a.2 6 x = uR ρ c r x
    by_cases e : x = c
    · rw [e, uR_y]; exact y6
    · rw [uR_n ρ e, y7 6 x (by omega) (by omega)]; exact hJ.1 x h0 h1
  · rw [y7 5 2 (by omega) (by omega)]; exact hJ.2.1
  · rw [y7 7 _ (by omega) (by omega)]; exact hJ.2.2 j hj
  · unfold NsJ at hN ⊢
    rw [y7 4 1 (by omega) (by omega), y7 4 2 (by omega) (by omega), y7 4 3 (by omega) (by omega), y7 4 4 (by omega) (by omega), y7 4 5 (by omega) (by omega), y7 4 6 (by omega) (by omega)]
    exact hN
  · unfold TM at y8 ⊢
    rw [e5, if_neg (by omega), e5, if_neg (by omega), e5, if_neg (by omega), e5, if_neg (by omega), e5, if_neg (by omega)]
    exact y8
  · rw [e5, if_neg (by omega), y10 91 j (by omega)]
  · refine RsM.told hk hR (Or.inr (by omega)) y2 hf hrf (fun x i hx => ?_)
    rw [e5, y9, y10 x i (by omega)]
  · exact hM c M5 (by omega) (fun x i hx => by rw [e5, y9, y10 x i (by omega)])
  · rw [e5, if_neg (by omega), y10 84 22 (by omega)]; exact h22
  · rw [e5, if_neg (by omega), y10 84 23 (by omega)]; exact h23
  · rw [e5, if_neg (by omega), y10 x i (by omega)]
/-- the class's and the model's memories before a sign, seen from the statement's beginning -/
theorem bad_of {Mc Mm M2 Mq : Mem} {a b : Int × Mem} (h : BadS M2 Mq a b) (hc : FrPc Mc M2) (hm : FrPm Mm Mq) : BadP Mc Mm (a.1, a.2) (0, b.2) := by
  obtain ⟨x1, x2, x3, x4, x5, x6⟩ := h
  refine ⟨by show 1 ≤ a.1; omega, by show a.1 ≤ 4; omega, rfl, x4, ?_, ?_, ?_⟩
  · show b.2 84 23 = a.2 3 2
    rw [x5, x2]
  · show FrPc Mc a.2
    rw [x2]; exact hc
  · exact hm.trans (fun x i hx => x6 x i (by unfold PMz at hx; omega))
theorem p_quote {u : Int → Int} {E p : Nat} {Z : Zs} {Mc Mm : Mem} (hE : E ≤ 600) (hp : p ≤ E) (hZ : ZsW Z) (hC : ZsC u E p Z Mc) (hM : ZsM u E p Z Mm) : Both (f_X6_parseQuote Mc) (f_X10_readQuotes Mm) (fun a b => GoodP u E p Z.2.1 Mc Mm a b ∨ BadP Mc Mm a b) := by
  obtain ⟨ρ, k, sg, hq, hn, rest⟩ := Z
  obtain ⟨c1, c2, c3, c4⟩ := hC
  obtain ⟨m1, m2, m3, m4, m5, m6⟩ := hM
  have t := te_is u hp
  have s := ts_is u hp
  have k3 : 0 ≤ k := hZ.2.2.1
  have k4 : k ≤ 4 := hZ.2.2.2.1
  have j5 : Mc 4 5 = hq := c4.1
  have n10 : hq = 0 ↔ Mm 84 10 = -1 := m4.1
  have n12 : hn = 0 ↔ Mm 84 12 = -1 := m4.2.1
  have n11 : hq = 0 → Mm 84 11 = -1 := m4.2.2.1
  unfold f_X6_parseQuote f_X10_readQuotes
  by_cases h : hq = 0
  · refine .lT (by omega) (.rT (by omega) (.pl fun M1 e1 => .bl (c_moveOn (u := u) hE t.2.1 M1 (fun j hj => by rw [e1, if_neg (by omega)]; exact c2 j hj) (by rw [e1, if_neg (by omega)]; exact c1.1) (by rw [e1, if_neg (by omega)]; exact c1.2.2.1)) (fun M2 ⟨a2, b2⟩ => .br (starts_go 4 (m_advance hE t.2.1 Mm m2.1 m1.1 m1.2.2.1)) (fun q ⟨q1, q2, q3⟩ => .rF (by omega) ?_))))
    have o2 : ∀ x i, x ≠ 3 → ¬ (x = 4 ∧ i = 5) → M2 x i = Mc x i := fun x i h1 h2 => by rw [b2 x i h1, e1, if_neg h2]
    have u2 : ∀ j : Nat, j < E → M2 2 j = u j := fun j hj => by rw [o2 2 j (by omega) (by omega)]; exact c2 j hj
    have J2 : RsJ (ρ, k, sg, hq, hn, rest) M2 := c3.same (fun c i h5 h7 => o2 c i (by omega) (by omega))
    have N2 : NsJ (ρ, k, sg, 1, hn, rest) M2 := by
      unfold NsJ
      rw [o2 4 1 (by omega) (by omega), o2 4 2 (by omega) (by omega), o2 4 3 (by omega) (by omega), o2 4 4 (by omega) (by omega), o2 4 6 (by omega) (by omega), b2 4 5 (by omega), e1 4 5, if_pos ⟨rfl, rfl⟩]
      exact ⟨rfl, c4.2⟩
    have Bq : Bt u E q.2 := m2.same (fun j => q3 91 j (by omega))
    have Rq : RsM (ρ, k, sg, hq, hn, rest) q.2 := m3.same (fun c i hc => q3 c i (by omega))
    have q22 := (q3 84 22 (by omega)).trans m5
    have q23 := (q3 84 23 (by omega)).trans m6
    have f2 : FrPc Mc M2 := fun x i hx => o2 x i (by omega) (by omega)
    have fq : FrPm Mm q.2 := fun x i hx => q3 x i (by unfold PMz at hx; omega)
    refine .bind (p_sign 8 (Mm := q.2) hE t.2.1 hZ u2 a2 J2.1 q2 Bq Rq q22) (fun a b hab => ?_)
    rcases hab with g | g
    · obtain ⟨c, y0, y1, y3, y4, ZC5, fa, ZM5⟩ := sign_done (q' := (1, hn, rest)) ⟨k3, k4⟩ (f := 10) (by omega) u2 J2 N2 Bq Rq ((q3 84 10 (by omega)).trans (n10.mp h)) q22 q23 g (fun c M5 hc e => by
        unfold NsM
        rw [e 84 10 (by omega), if_pos ⟨rfl, rfl⟩, e 84 11 (by omega), if_neg (by omega), e 84 12 (by omega), if_neg (by omega), e 89 10 (by omega), if_neg (by omega), e 89 11 (by omega), if_neg (by omega), e 89 12 (by omega), if_neg (by omega), e 89 13 (by omega), if_neg (by omega), e 89 0 (by omega), if_neg (by omega), e 89 1 (by omega), if_neg (by omega), q3 84 11 (by omega), q3 84 12 (by omega), q3 89 10 (by omega), q3 89 11 (by omega), q3 89 12 (by omega), q3 89 13 (by omega), q3 89 0 (by omega), q3 89 1 (by omega)]
        exact ⟨⟨fun x => absurd x (by show ¬ (1 : Int) = 0; decide), fun x => absurd x hc⟩, m4.2.1, fun x => absurd x (by show ¬ (1 : Int) = 0; decide), m4.2.2.2⟩)
      have hZ1 : ZsW (uR ρ c 8, k, sg, 1, hn, rest) := hZ.told ⟨y0, y1⟩ (by omega) (Or.inr rfl) hZ.2.2.2.2.2.2.1
      have fa1 : FrPc Mc a.2 := f2.trans (fun x i hx => fa x i (by omega) (by omega))
      have ga := g.1
      have gb := g.2.1
      refine .ll (.lT ga (.rF (by omega) (.pr fun M5 e5 => ?_)))
      obtain ⟨zm, om⟩ := ZM5 M5 e5
      have fm1 : FrPm Mm M5 := fq.trans (fun x i hx => om x i (by unfold PMz at hx; omega))
      refine .bind (p_word hE y4 wd_201.2.2.1 ZC5.2.1 ZC5.1 zm.1 zm.2.1) (fun z w hzw => ?_)
      rcases hzw with ⟨z1, w1, _⟩ | ⟨z1, w1, _⟩
      · refine .lF (by omega) (.rF (by omega) (.bl (ZC5.move hE y4) (fun M6 ⟨zc6, f6, _⟩ => .br (zm.move hE y4) (fun M7 ⟨zm7, f7, _⟩ => ?_))))
        have t2 := te_is u y4
        have s2 := ts_is u y4
        have fc6 : FrPc Mc M6 := fa1.trans f6
        have fm7 : FrPm Mm M7 := fm1.trans f7
        have n11' : M7 84 11 = -1 := by
          have e := ‹FrTk M5 M7› 84 11 (by omega)
          rw [e, om 84 11 (by omega), q3 84 11 (by omega)]; exact n11 h
        refine .bind (p_sign 9 hE t2.2.1 hZ1 zc6.2.1 zc6.1 zc6.2.2.1.1 zm7.1 zm7.2.1 zm7.2.2.1 zm7.2.2.2.2.1) (fun a' b' hab' => ?_)
        rcases hab' with g' | g'
        · obtain ⟨c', y0', y1', y3', y4', ZC8, fa', ZM8⟩ := sign_done (q' := (1, hn, rest)) ⟨k3, k4⟩ (f := 11) (by omega) zc6.2.1 zc6.2.2.1 zc6.2.2.2 zm7.2.1 zm7.2.2.1 n11' zm7.2.2.2.2.1 zm7.2.2.2.2.2 g' (fun c M5 hc e => by
            have n := zm7.2.2.2.1
            unfold NsM at n ⊢
            rw [e 84 10 (by omega), if_neg (by omega), e 84 11 (by omega), if_pos ⟨rfl, rfl⟩, e 84 12 (by omega), if_neg (by omega), e 89 10 (by omega), if_neg (by omega), e 89 11 (by omega), if_neg (by omega), e 89 12 (by omega), if_neg (by omega), e 89 13 (by omega), if_neg (by omega), e 89 0 (by omega), if_neg (by omega), e 89 1 (by omega), if_neg (by omega)]
            exact ⟨n.1, n.2.1, fun x => absurd x (by show ¬ (1 : Int) = 0; decide), n.2.2.2⟩)
          have gb' := g'.2.1
          refine .rF (by omega) (.pr fun M9 e9 => .ret (Or.inl ?_))
          obtain ⟨zm9, om9⟩ := ZM8 M9 e9
          exact ⟨g'.1, rfl, ⟨_, (uR (uR ρ c 8) c' 9, k, sg, 1, hn, rest), by omega, y4', hZ1.told ⟨y0', y1'⟩ (by omega) (Or.inr rfl) hZ.2.2.2.2.2.2.1, rfl, ZC8, zm9⟩, fc6.trans (fun x i hx => fa' x i (by omega) (by omega)), fm7.trans (fun x i hx => om9 x i (by unfold PMz at hx; omega))⟩
        · exact .rT g'.2.2.1 (.ret (Or.inr (bad_of g' fc6 fm7)))
      · exact .lT z1 (.rT w1 (.ret (Or.inl ⟨ga, rfl, ⟨_, (uR ρ c 8, k, sg, 1, hn, rest), by omega, y4, hZ1, rfl, ZC5, zm⟩, fa1, fm1⟩)))
    · have ga := g.1
      exact .ll (.lF (by omega) (.rT g.2.2.1 (.ret (Or.inr (bad_of g f2 fq)))))
  · refine .lF (by omega) (.rF (by omega) (.br (starts_no 4 m5) (fun b hb => .rT hb.1 (.ret (Or.inr ?_)))))
    exact bad_here (Z := (ρ, k, sg, hq, hn, rest)) ⟨c1, c2, c3, c4⟩ (by omega) m1 (r := (0, b.2)) ⟨rfl, hb.2⟩
/-- a number goes into a field of both -/
theorem p_into {u : Int → Int} {E p : Nat} {Mc Mm : Mem} {kc : Mem → Option (Int × Mem)} {km : Int × Mem → Option (Int × Mem)} {S : Int × Mem → Int × Mem → Prop} (f g lo hi : Int) (hg : 0 ≤ g ∧ g < 254) (hlo : 0 ≤ lo) (hE : E ≤ 600) (hp : p ≤ E) (hu : ∀ j : Nat, j < E → Mc 2 j = u j) (hC : TC u E p Mc) (hM : TM u E p Mm) (hB : Bt u E Mm) (h22 : Mm 84 22 = 0)
    (hok : ∀ (x : Int) (Ma Mb : Mem), lo ≤ x → x ≤ hi → p < te u E p → te u E p ≤ E → Ma 4 f = x → TC u E (te u E p) Ma → (∀ c i, c ≠ 3 → ¬ (c = 4 ∧ i = f) → Ma c i = Mc c i) → TM u E (te u E p) Mb → Mb 89 g = x → (∀ c i, ¬ (c = 84 ∧ ((18 ≤ i ∧ i ≤ 21) ∨ i = 24)) → ¬ (c = 89 ∧ i = g) → Mb c i = Mm c i) → Both (kc Ma) (km (1, Mb)) S)
    (hbad : ∀ (x : Int) (Ma Mb : Mem), x < 0 → -4 ≤ x → Ma 4 f = x → Ma 3 2 = Mc 3 2 → (∀ c i, c ≠ 3 → ¬ (c = 4 ∧ i = f) → Ma c i = Mc c i) → Mb 84 22 = -x → Mb 84 23 = Mc 3 2 → (∀ c i, ¬ (c = 84 ∧ (i = 22 ∨ i = 23 ∨ i = 24)) → Mb c i = Mm c i) → Both (kc Ma) (km (0, Mb)) S) : Both ((f_X8_takeNumber lo hi Mc).bind fun p9 => lt1 (up p9.2 4 f p9.1) fun M12 => kc M12) ((f_X10_takesInto g lo hi Mm).bind km) S := by
  obtain ⟨a, b, ea, eb, hr⟩ := p_num hE hp lo hi hlo hu hC hM hB h22
  unfold f_X10_takesInto
  rw [ea, eb]
  refine Both.pl (M := a.2) fun Ma ea' => ?_
  show Both _ ((if b.1 = 0 then some (0, b.2) else if (0 : Int) ≤ g ∧ g < 254 then lt1 (up b.2 89 g (b.2 84 24)) fun M20 => some (1, M20) else none).bind km) S
  rcases hr with ⟨h1, h2, h3, h4, h5, h6, h7, h8, h9, h10⟩ | ⟨h1, h2, h3, h4, h5, h6, h7⟩
  · rw [if_neg (by omega), if_pos hg]
    have T7 : TM u E (te u E p) (up b.2 89 g (b.2 84 24)) := by
      have e : ∀ i, (up b.2 89 g (b.2 84 24)) 84 i = b.2 84 i := fun i => if_neg (by omega)
      unfold TM at h7 ⊢
      rw [e, e, e, e, e]
      exact h7
    have T6 : TC u E (te u E p) Ma := by
      unfold TC at h6 ⊢
      rw [ea', if_neg (by omega), ea', if_neg (by omega), ea', if_neg (by omega), ea', if_neg (by omega)]
      exact h6
    refine hok a.1 Ma _ h1 h2 h4 h5 (by rw [ea', if_pos ⟨rfl, rfl⟩]) T6 (fun c i hc hi => by rw [ea', if_neg hi]; exact h9 c i hc) T7 ((if_pos ⟨rfl, rfl⟩).trans h8) (fun c i hc hi => (if_neg hi).trans (h10 c i hc))
  · rw [if_pos h4]
    refine hbad a.1 Ma b.2 h1 h2 (by rw [ea', if_pos ⟨rfl, rfl⟩]) (by rw [ea', if_neg (by omega), h3]) (fun c i hc hi => by rw [ea', if_neg hi, h3]) h5 h6 h7
theorem p_colours {u : Int → Int} {E p : Nat} {Z : Zs} {Mc Mm : Mem} (hE : E ≤ 600) (hp : p ≤ E) (hZ : ZsW Z) (hC : ZsC u E p Z Mc) (hM : ZsM u E p Z Mm) : Both (f_X6_parseColours Mc) ((f_X10_advance Mm).bind fun p38 => (f_X10_takesInto 10 1 9 p38).bind fun p47 => if p47.1 = 0 ∨ p47.1 = 1 then some (p47.1, p47.2) else none) (fun a b => GoodP u E p Z.2.1 Mc Mm a b ∨ BadP Mc Mm a b) := by
  have t := te_is u hp
  have s := ts_is u hp
  unfold f_X6_parseColours
  refine .bl (hC.move hE hp) (fun M1 ⟨c1, fc1, _⟩ => .br (hM.move hE hp) (fun M2 ⟨m2, fm2, _⟩ => ?_))
  refine p_into 1 10 1 9 (by omega) (by omega) hE t.2.1 c1.2.1 c1.1 m2.1 m2.2.1 m2.2.2.2.2.1 (fun x Ma Mb x0 x1 l1 l2 ax tA oA tB bx oB => ?_) (fun x Ma Mb x0 x1 ax a32 oA b22 b23 oB => ?_)
  · refine .lT (by omega) (.rT (Or.inr rfl) (.ret (Or.inl ⟨rfl, rfl, ⟨te u E (te u E p), (Z.1, Z.2.1, Z.2.2.1, Z.2.2.2.1, Z.2.2.2.2.1, x, Z.2.2.2.2.2.2), by omega, l2, ?_, rfl, ⟨tA, fun j hj => (oA 2 j (by omega) (by omega)).trans (c1.2.1 j hj), c1.2.2.1.same (fun c i h5 h7 => oA c i (by omega) (by omega)), ?_⟩, ⟨tB, m2.2.1.same (fun j => oB 91 j (by omega) (by omega)), m2.2.2.1.same (fun c i hc => oB c i (by omega) (by omega)), ?_, (oB 84 22 (by omega) (by omega)).trans m2.2.2.2.2.1, (oB 84 23 (by omega) (by omega)).trans m2.2.2.2.2.2⟩⟩, fun c i hc => ?_, fun c i hc => ?_⟩)))
    · obtain ⟨z1, z2, z3, z4, z5, z6, z7, z8, z9⟩ := hZ
      exact ⟨z1, z2, z3, z4, z5, z6, z7, ⟨x0, x1⟩, z9⟩
    · obtain ⟨n1, n2, n3, n4⟩ := c1.2.2.2
      exact ⟨(oA 4 5 (by omega) (by omega)).trans n1, (oA 4 6 (by omega) (by omega)).trans n2, ax, (oA 4 2 (by omega) (by omega)).trans n4.1, (oA 4 3 (by omega) (by omega)).trans n4.2.1, (oA 4 4 (by omega) (by omega)).trans n4.2.2⟩
    · obtain ⟨n1, n2, n3, n4, n5⟩ := m2.2.2.2.1
      show NsM _ Mb
      unfold NsM
      rw [oB 84 10 (by omega) (by omega), oB 84 11 (by omega) (by omega), oB 84 12 (by omega) (by omega), oB 89 11 (by omega) (by omega), oB 89 12 (by omega) (by omega), oB 89 13 (by omega) (by omega), oB 89 0 (by omega) (by omega), oB 89 1 (by omega) (by omega)]
      exact ⟨n1, n2, n3, bx, n5⟩
    · show Ma c i = Mc c i
      rw [oA c i (by omega) (by omega)]; exact fc1 c i hc
    · show Mb c i = Mm c i
      rw [oB c i (by unfold PMz at hc; omega) (by unfold PMz at hc; omega)]; exact fm2 c i hc
  · refine .lF (by omega) (.rT (Or.inl rfl) (.ret (Or.inr ?_)))
    rw [ax, w32_of (by omega) (by omega)]
    refine ⟨by show 1 ≤ -x; omega, by show -x ≤ 4; omega, rfl, b22, by show Mb 84 23 = Ma 3 2; rw [b23, a32], fun c i hc => ?_, fun c i hc => ?_⟩
    · show Ma c i = Mc c i
      rw [oA c i (by omega) (by omega)]; exact fc1 c i hc
    · show Mb c i = Mm c i
      rw [oB c i (by unfold PMz at hc; omega)]; exact fm2 c i hc
theorem p_costs {u : Int → Int} {E p : Nat} {Z : Zs} {Mc Mm : Mem} (hE : E ≤ 600) (hp : p ≤ E) (hZ : ZsW Z) (hC : ZsC u E p Z Mc) (hM : ZsM u E p Z Mm) : Both (f_X6_parseCosts Mc) ((f_X10_advance Mm).bind fun p61 => (f_X10_takesInto 11 1 99 p61).bind fun p70 => if p70.1 = 0 then some (0, p70.2) else (f_X10_takesInto 12 1 99 p70.2).bind fun p82 => if p82.1 = 0 then some (0, p82.2) else (f_X10_takesInto 13 1 99 p82.2).bind fun p94 => if p94.1 = 0 then some (0, p94.2) else some (1, p94.2)) (fun a b => GoodP u E p Z.2.1 Mc Mm a b ∨ BadP Mc Mm a b) := by
  have t := te_is u hp
  have s := ts_is u hp
  have bad : ∀ (x f : Int) (M1 M2 Ma Mb : Mem), FrPc Mc M1 → FrPm Mm M2 → x < 0 → -4 ≤ x → Ma 4 f = x → Ma 3 2 = M1 3 2 → (∀ c i, c ≠ 3 → ¬ (c = 4 ∧ i = f) → Ma c i = M1 c i) → Mb 84 22 = -x → Mb 84 23 = M1 3 2 → (∀ c i, ¬ (c = 84 ∧ (i = 22 ∨ i = 23 ∨ i = 24)) → Mb c i = M2 c i) → BadP Mc Mm (w32 (-(Ma 4 f)), Ma) (0, Mb) := by
    intro x f M1 M2 Ma Mb fc fm x0 x1 ax a32 oA b22 b23 oB
    rw [ax, w32_of (by omega) (by omega)]
    refine ⟨by show 1 ≤ -x; omega, by show -x ≤ 4; omega, rfl, b22, by show Mb 84 23 = Ma 3 2; rw [b23, a32], fun c i hc => ?_, fun c i hc => ?_⟩
    · show Ma c i = Mc c i
      rw [oA c i (by omega) (by omega)]; exact fc c i hc
    · show Mb c i = Mm c i
      rw [oB c i (by unfold PMz at hc; omega)]; exact fm c i hc
  unfold f_X6_parseCosts
  refine .bl (hC.move hE hp) (fun M1 ⟨c1, fc1, _⟩ => .br (hM.move hE hp) (fun M2 ⟨m2, fm2, _⟩ => ?_))
  refine p_into 2 11 1 99 (by omega) (by omega) hE t.2.1 c1.2.1 c1.1 m2.1 m2.2.1 m2.2.2.2.2.1 (fun x Ma Mb x0 x1 l1 l2 ax tA oA tB bx oB => ?_) (fun x Ma Mb x0 x1 ax a32 oA b22 b23 oB => .lF (by omega) (.rT rfl (.ret (Or.inr (bad x 2 M1 M2 Ma Mb fc1 fm2 x0 x1 ax a32 oA b22 b23 oB)))))
  have uA : ∀ j : Nat, j < E → Ma 2 j = u j := fun j hj => by rw [oA 2 j (by omega) (by omega)]; exact c1.2.1 j hj
  have bB : Bt u E Mb := m2.2.1.same (fun j => oB 91 j (by omega) (by omega))
  have z22 : Mb 84 22 = 0 := (oB 84 22 (by omega) (by omega)).trans m2.2.2.2.2.1
  have fa : FrPc Mc Ma := fc1.trans (fun c i hc => oA c i (by omega) (by omega))
  have fb : FrPm Mm Mb := fm2.trans (fun c i hc => oB c i (by unfold PMz at hc; omega) (by unfold PMz at hc; omega))
  refine .lT (by omega) (.rF (by show ¬ (1 : Int) = 0; decide) ?_)
  refine p_into (Mm := Mb) 3 12 1 99 (by omega) (by omega) hE l2 uA tA tB bB z22 (fun y Ma' Mb' y0 y1 l1' l2' ay tA' oA' tB' bY oB' => ?_) (fun y Ma' Mb' y0 y1 ay a32 oA' b22 b23 oB' => .lF (by omega) (.rT rfl (.ret (Or.inr (bad y 3 Ma Mb Ma' Mb' fa fb y0 y1 ay a32 oA' b22 b23 oB')))))
  have uA' : ∀ j : Nat, j < E → Ma' 2 j = u j := fun j hj => by rw [oA' 2 j (by omega) (by omega)]; exact uA j hj
  have bB' : Bt u E Mb' := bB.same (fun j => oB' 91 j (by omega) (by omega))
  have z22' : Mb' 84 22 = 0 := (oB' 84 22 (by omega) (by omega)).trans z22
  have fa' : FrPc Mc Ma' := fa.trans (fun c i hc => oA' c i (by omega) (by omega))
  have fb' : FrPm Mm Mb' := fb.trans (fun c i hc => oB' c i (by unfold PMz at hc; omega) (by unfold PMz at hc; omega))
  refine .lT (by omega) (.rF (by show ¬ (1 : Int) = 0; decide) ?_)
  refine p_into (Mm := Mb') 4 13 1 99 (by omega) (by omega) hE l2' uA' tA' tB' bB' z22' (fun w Ma'' Mb'' w0 w1 l1'' l2'' aw tA'' oA'' tB'' bW oB'' => ?_) (fun w Ma'' Mb'' w0 w1 aw a32 oA'' b22 b23 oB'' => .lF (by omega) (.rT rfl (.ret (Or.inr (bad w 4 Ma' Mb' Ma'' Mb'' fa' fb' w0 w1 aw a32 oA'' b22 b23 oB'')))))
  have oc : ∀ c i, c ≠ 3 → ¬ (c = 4 ∧ 2 ≤ i ∧ i ≤ 4) → Ma'' c i = M1 c i := fun c i h3 h4 => by rw [oA'' c i h3 (by omega), oA' c i h3 (by omega), oA c i h3 (by omega)]
  have om : ∀ c i, ¬ (c = 84 ∧ ((18 ≤ i ∧ i ≤ 21) ∨ i = 24)) → ¬ (c = 89 ∧ 11 ≤ i ∧ i ≤ 13) → Mb'' c i = M2 c i := fun c i h3 h4 => by rw [oB'' c i h3 (by omega), oB' c i h3 (by omega), oB c i h3 (by omega)]
  refine .lT (by omega) (.rF (by show ¬ (1 : Int) = 0; decide) (.ret (Or.inl ⟨rfl, rfl, ⟨_, (Z.1, Z.2.1, Z.2.2.1, Z.2.2.2.1, Z.2.2.2.2.1, Z.2.2.2.2.2.1, x, y, w), by omega, l2'', ?_, rfl, ⟨tA'', fun j hj => (oc 2 j (by omega) (by omega)).trans (c1.2.1 j hj), c1.2.2.1.same (fun c i h5 h7 => oc c i (by omega) (by omega)), ?_⟩, ⟨tB'', m2.2.1.same (fun j => om 91 j (by omega) (by omega)), m2.2.2.1.same (fun c i hc => om c i (by omega) (by omega)), ?_, (om 84 22 (by omega) (by omega)).trans m2.2.2.2.2.1, (om 84 23 (by omega) (by omega)).trans m2.2.2.2.2.2⟩⟩, fun c i hc => ?_, fun c i hc => ?_⟩)))
  · obtain ⟨z1, z2, z3, z4, z5, z6, z7, z8, z9⟩ := hZ
    exact ⟨z1, z2, z3, z4, z5, z6, z7, z8, ⟨x0, x1⟩, ⟨y0, y1⟩, ⟨w0, w1⟩⟩
  · obtain ⟨n1, n2, n3, n4⟩ := c1.2.2.2
    exact ⟨(oc 4 5 (by omega) (by omega)).trans n1, (oc 4 6 (by omega) (by omega)).trans n2, (oc 4 1 (by omega) (by omega)).trans n3, by show Ma'' 4 2 = x; rw [oA'' 4 2 (by omega) (by omega), oA' 4 2 (by omega) (by omega)]; exact ax, by show Ma'' 4 3 = y; rw [oA'' 4 3 (by omega) (by omega)]; exact ay, aw⟩
  · obtain ⟨n1, n2, n3, n4, n5, n6, n7, n8⟩ := m2.2.2.2.1
    show NsM _ Mb''
    unfold NsM
    rw [om 84 10 (by omega) (by omega), om 84 11 (by omega) (by omega), om 84 12 (by omega) (by omega), om 89 10 (by omega) (by omega), om 89 0 (by omega) (by omega), om 89 1 (by omega) (by omega)]
    exact ⟨n1, n2, n3, n4, by show Mb'' 89 11 = x; rw [oB'' 89 11 (by omega) (by omega), oB' 89 11 (by omega) (by omega)]; exact bx, by show Mb'' 89 12 = y; rw [oB'' 89 12 (by omega) (by omega)]; exact bY, bW, n8⟩
  · show Ma'' c i = Mc c i
    rw [oc c i (by omega) (by omega)]; exact fc1 c i hc
  · show Mb'' c i = Mm c i
    rw [om c i (by unfold PMz at hc; omega) (by unfold PMz at hc; omega)]; exact fm2 c i hc
