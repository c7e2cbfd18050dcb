/-! ===== a setup is parsed: signs and kinds ===== -/
theorem Both.pl {β γ : Type} {M : Mem} {o : Nat} {i v : Int} {k : Mem → Option β} {y : Option γ} {R : β → γ → Prop} (h : ∀ M' : Mem, (∀ b j, M' b j = if b = o ∧ j = i then v else M b j) → Both (k M') y R) : Both (lt1 (up M o i v) k) y R := h _ (fun _ _ => rfl)
theorem Both.pr {β γ : Type} {M : Mem} {o : Nat} {i v : Int} {k : Mem → Option β} {x : Option γ} {R : γ → β → Prop} (h : ∀ M' : Mem, (∀ b j, M' b j = if b = o ∧ j = i then v else M b j) → Both x (k M') R) : Both x (lt1 (up M o i v) k) R := h _ (fun _ _ => rfl)
theorem isSigns_at {u : Int → Int} {E p : Nat} (hE : E ≤ 600) (hp : p ≤ E) {M : Mem} (h : TC u E p M) (v : Int) : f_X8_isSigns v M = some (if tk u E p = 4 ∧ (te u E p : Int) - ts u E p = v then 1 else 0) := by
  have t := te_is u hp
  unfold f_X8_isSigns
  rw [h.2.2.2, h.2.2.1, h.2.1, w32_of (by omega) (by omega)]
  by_cases h1 : tk u E p = 4
  · by_cases h2 : (te u E p : Int) - ts u E p = v
    · rw [if_pos h1, if_pos h2, if_pos ⟨h1, h2⟩]
    · rw [if_pos h1, if_neg h2, if_neg (fun x => h2 x.2)]
  · rw [if_neg h1, if_neg (fun x => h1 x.1)]
theorem signAt_at {u : Int → Int} {E p : Nat} (hE : E ≤ 600) {M : Mem} (h : TC u E p M) (hu : ∀ j : Nat, j < E → M 2 j = u j) {v : Int} {n : Nat} (hv : v = n) (hn : ts u E p + n < E) : f_X8_signAt v M = some (u ((ts u E p + n : Nat) : Int)) := by
  subst hv
  unfold f_X8_signAt
  rw [h.2.1, w32_of (by omega) (by omega), ibyteAt_ok, if_pos (by omega), show ((ts u E p : Nat) : Int) + (n : Int) = ((ts u E p + n : Nat) : Int) by omega, hu _ hn]
  rfl
theorem tell_ok {c r : Int} {M : Mem} (hc : 0 ≤ c ∧ c ≤ 126) (h : M 6 c = -1) : Ok (f_X7_tell 5 c r M) (fun q => q.1 = 0 ∧ ∀ b i, q.2 b i = if b = 6 ∧ i = c then r else M b i) := by
  unfold f_X7_tell
  exact .ifF (by omega) (.ifT (by omega) (.ifT (by omega) (.ifT h (.put fun M1 e1 => .ret ⟨rfl, e1⟩))))
theorem tell_no {c r : Int} {M : Mem} (hc : 0 ≤ c ∧ c ≤ 126) (h : M 6 c ≠ -1) : Ok (f_X7_tell 5 c r M) (fun q => q = ((3 : Int), M)) := by
  unfold f_X7_tell
  exact .ifF (by omega) (.ifT (by omega) (.ifT (by omega) (.ifF h (.ret rfl))))
theorem roleOf_at {c : Int} {M : Mem} (hc : 0 ≤ c ∧ c ≤ 126) : f_X7_roleOf 5 c M = some (M 6 c) := by
  unfold f_X7_roleOf
  rw [if_neg (by omega), if_neg (by omega), if_pos (by omega)]
theorem fl_ok {X : Option (Int × Mem)} {Q : Int × Mem → Prop} (h : Ok X Q) (hq : ∀ r, Q r → r.1 = 0 ∨ r.1 = 1) : Ok (X.bind fun p => if p.1 = 0 ∨ p.1 = 1 then some (p.1, p.2) else none) Q := .bind h (fun p hp => .ifT (hq p hp) (.ret hp))
theorem starts_no (k : Int) {M : Mem} (h : M 84 22 = 0) : Ok (f_X10_starts k 0 M) (fun r => r.1 = 0 ∧ r.2 84 22 = k ∧ r.2 84 23 = M 84 18 ∧ ∀ c i, ¬ (c = 84 ∧ (i = 22 ∨ i = 23)) → r.2 c i = M c i) := by
  unfold f_X10_starts
  exact .ifT rfl (fails_fl k h)
theorem starts_go (k : Int) {M : Mem} {P : Mem → Prop} (h : Ok (f_X10_advance M) P) : Ok (f_X10_starts k 1 M) (fun r => r.1 = 1 ∧ P r.2) := by
  unfold f_X10_starts
  exact .ifF (by decide) (.bind h (fun M1 h1 => .ret ⟨rfl, h1⟩))
/-- has the setup told this sign already -/
theorem isTold_L {Z : Zs} {c : Int} {M : Mem} (hZ : ZsW Z) (hR : RsM Z M) (hc : isTxt c) : ∀ (r fuel n : Nat) (v2 : Int), (Z.2.1 - n).toNat = r → r < fuel → (n : Int) ≤ Z.2.1 → ((v2 = 1 ∧ Z.1 c ≠ -1) ∨ (v2 = 0 ∧ Z.1 c ≠ 8 ∧ Z.1 c ≠ 9 ∧ Z.1 c ≠ 10 ∧ ∀ k : Nat, k < n → Z.1 c ≠ 2 * k ∧ Z.1 c ≠ 2 * k + 1)) → Ok (f_X10_isTold_L32 fuel c v2 n M) (fun z => (z = 1 ∧ Z.1 c ≠ -1) ∨ (z = 0 ∧ Z.1 c = -1)) := by
  obtain ⟨hZ1, _, hZ3, hZ4, _⟩ := hZ
  obtain ⟨hR1, hR2, hR3⟩ := hR
  have rc := (hR3 c hc).2.2.2
  have zc := hZ1 c
  intro r
  induction r with
  | zero =>
    intro fuel n v2 hr hf hn hv
    obtain ⟨fuel, rfl⟩ : ∃ f, fuel = f + 1 := ⟨fuel - 1, by omega⟩
    rw [f_X10_isTold_L32, hR1]
    refine .ifT (by omega) (.ifT (hv.elim (fun x => Or.inr x.1) (fun x => Or.inl x.1)) (.ret ?_))
    rcases hv with ⟨a, b⟩ | ⟨a, b8, b9, b10, b⟩
    · exact Or.inl ⟨a, b⟩
    · refine Or.inr ⟨a, ?_⟩
      rcases zc with z | z | z
      · exact z
      · have := b (Z.1 c / 2).toNat (by omega)
        omega
      · omega
  | succ r ih =>
    intro fuel n v2 hr hf hn hv
    obtain ⟨fuel, rfl⟩ : ∃ f, fuel = f + 1 := ⟨fuel - 1, by omega⟩
    have e2 := hR2 n (by omega)
    have e3 := rc n (by omega)
    have step : ∀ v2' x : Int, x = w32 ((n : Int) + 1) → ((v2' = 1 ∧ Z.1 c ≠ -1) ∨ (v2' = 0 ∧ Z.1 c ≠ 8 ∧ Z.1 c ≠ 9 ∧ Z.1 c ≠ 10 ∧ ∀ k : Nat, k < n + 1 → Z.1 c ≠ 2 * k ∧ Z.1 c ≠ 2 * k + 1)) → Ok (f_X10_isTold_L32 fuel c v2' x M) (fun z => (z = 1 ∧ Z.1 c ≠ -1) ∨ (z = 0 ∧ Z.1 c = -1)) := by
      intro v2' x hx hv'
      rw [w32_of (by omega) (by omega)] at hx
      have hx2 : x = ((n + 1 : Nat) : Int) := by omega
      rw [hx2]
      exact ih fuel (n + 1) v2' (by omega) (by omega) (by omega) hv'
    rw [f_X10_isTold_L32, hR1, e2.1, e2.2]
    refine .ifF (by omega) (.ifC (fun h0 => .ifT (by omega) (.ifC (fun h1 => .let fun x ex => ?_) (fun h1 => .ifC (fun h2 => .let fun x ex => ?_) (fun h2 => .let fun x ex => ?_)))) (fun h0 => .let fun x ex => ?_))
    · exact step 1 x ex (Or.inl ⟨rfl, by have := e3.1.mpr h1; omega⟩)
    · exact step 1 x ex (Or.inl ⟨rfl, by have := e3.2.mpr h2; omega⟩)
    · rcases hv with ⟨a, b⟩ | ⟨a, b8, b9, b10, b⟩
      · omega
      · refine step 0 x ex (Or.inr ⟨rfl, b8, b9, b10, fun k hk => ?_⟩)
        by_cases e : k = n
        · subst e
          exact ⟨fun x => h1 (e3.1.mp x), fun x => h2 (e3.2.mp x)⟩
        · exact b k (by omega)
    · rcases hv with ⟨a, b⟩ | ⟨a, b8, b9, b10, b⟩
      · exact step 1 x ex (Or.inl ⟨rfl, b⟩)
      · omega
theorem isTold_ok {Z : Zs} {c : Int} {M : Mem} (hZ : ZsW Z) (hR : RsM Z M) (hc : isTxt c) : Ok (f_X10_isTold c M) (fun z => (z = 1 ∧ Z.1 c ≠ -1) ∨ (z = 0 ∧ Z.1 c = -1)) := by
  have q := hR.2.2 c hc
  have z3 := hZ.2.2.1
  have z4 := hZ.2.2.2.1
  have go : ∀ v2 : Int, ((v2 = 1 ∧ Z.1 c ≠ -1) ∨ (v2 = 0 ∧ Z.1 c ≠ 8 ∧ Z.1 c ≠ 9 ∧ Z.1 c ≠ 10 ∧ ∀ k : Nat, k < 0 → Z.1 c ≠ 2 * k ∧ Z.1 c ≠ 2 * k + 1)) → Ok (f_X10_isTold_L32 4096 c v2 ((0 : Nat) : Int) M) (fun z => (z = 1 ∧ Z.1 c ≠ -1) ∨ (z = 0 ∧ Z.1 c = -1)) := fun v2 hv => isTold_L hZ hR hc (Z.2.1 - ((0 : Nat) : Int)).toNat 4096 0 v2 rfl (by omega) (by omega) hv
  unfold f_X10_isTold
  refine .ifC (fun h => go 1 (Or.inl ⟨rfl, ?_⟩)) (fun h1 => .ifC (fun h => go 1 (Or.inl ⟨rfl, ?_⟩)) (fun h2 => .ifC (fun h => go 1 (Or.inl ⟨rfl, ?_⟩)) (fun h3 => go 0 (Or.inr ⟨rfl, fun x => h1 (q.1.mp x), fun x => h2 (q.2.1.mp x), fun x => h3 (q.2.2.1.mp x), fun k hk => by omega⟩))))
  · have := q.1.mpr h; omega
  · have := q.2.1.mpr h; omega
  · have := q.2.2.1.mpr h; omega
/-- what one sign's reading leaves -/
def GoodS (u : Int → Int) (E p : Nat) (Z : Zs) (r : Int) (Mc Mm : Mem) (a b : Int × Mem) : Prop := a.1 = 0 ∧ b.1 = 1 ∧ ∃ c : Int, 33 ≤ c ∧ c ≤ 126 ∧ Z.1 c = -1 ∧ p < te u E p ∧ te u E p ≤ E ∧ TC u E (te u E p) a.2 ∧ a.2 6 c = r ∧ (∀ x i, x ≠ 3 → ¬ (x = 6 ∧ i = c) → a.2 x i = Mc x i) ∧ TM u E (te u E p) b.2 ∧ b.2 84 24 = c ∧ ∀ x i, ¬ (x = 84 ∧ ((18 ≤ i ∧ i ≤ 21) ∨ i = 24)) → b.2 x i = Mm x i
def BadS (Mc Mm : Mem) (a b : Int × Mem) : Prop := (a.1 = 1 ∨ a.1 = 3) ∧ a.2 = Mc ∧ b.1 = 0 ∧ b.2 84 22 = a.1 ∧ b.2 84 23 = Mc 3 2 ∧ ∀ x i, ¬ (x = 84 ∧ (i = 22 ∨ i = 23 ∨ i = 24)) → b.2 x i = Mm x i
theorem p_sign {u : Int → Int} {E p : Nat} {Z : Zs} {Mc Mm : Mem} (r : Int) (hE : E ≤ 600) (hp : p ≤ E) (hZ : ZsW Z) (hu : ∀ j : Nat, j < E → Mc 2 j = u j) (hC : TC u E p Mc) (h6 : ∀ c, 0 ≤ c → c ≤ 126 → Mc 6 c = Z.1 c) (hM : TM u E p Mm) (hB : Bt u E Mm) (hR : RsM Z Mm) (h22 : Mm 84 22 = 0) : Both (f_X6_parseSign r Mc) (f_X10_takesOne Mm) (fun a b => GoodS u E p Z r Mc Mm a b ∨ BadS Mc Mm a b) := by
  have t := te_is u hp
  have s := ts_is u hp
  have km : tkm u E p = 4 ↔ tk u E p = 4 ∧ (te u E p : Int) - ts u E p = 1 := by unfold tkm; split <;> (try split) <;> omega
  by_cases h : tk u E p = 4 ∧ (te u E p : Int) - ts u E p = 1
  · have ti := tk_is u hp h.1 (by decide) (by decide)
    have sg := (srt_4 _).mp ti.2.1
    have cls : ∀ {Q : Int × Mem → Prop}, Ok ((f_X7_tell 5 (u (ts u E p)) r Mc).bind fun p20 => lt1 (p20.1) fun v3_23 => if v3_23 = 0 then (f_X8_moveOn p20.2).bind fun p29 => some (v3_23, p29) else some (v3_23, p20.2)) Q → Ok (f_X6_parseSign r Mc) Q := by
      intro Q hq
      unfold f_X6_parseSign
      refine .bind (.val (isSigns_at hE hp hC 1)) (fun z hz => ?_)
      rw [if_pos h] at hz
      exact .ifF (by omega) (.bind (.val (signAt_at hE hC hu (v := 0) (n := 0) rfl ti.1)) (fun c hc => by subst hc; exact hq))
    have md : ∀ {Q : Int × Mem → Prop}, (∀ M1 : Mem, (∀ b i, M1 b i = if b = 84 ∧ i = 24 then u (ts u E p) else Mm b i) → Ok ((f_X10_isTold (u (ts u E p)) M1).bind fun p33 => if p33 = 0 then (f_X10_starts 3 1 M1).bind fun p44 => if p44.1 = 0 ∨ p44.1 = 1 then some (p44.1, p44.2) else none else (f_X10_starts 3 0 M1).bind fun p44 => if p44.1 = 0 ∨ p44.1 = 1 then some (p44.1, p44.2) else none) Q) → Ok (f_X10_takesOne Mm) Q := by
      intro Q hq
      unfold f_X10_takesOne
      refine .ifT (by rw [hM.2.2.2.1]; exact km.mpr h) ?_
      rw [hM.2.1]
      refine .bind (.val (mbyteAt_at hE hM.1 hB.1 (n := ts u E p) (by omega))) (fun c hc => ?_)
      rw [if_neg (by omega)] at hc
      subst hc
      refine .put fun M1 e1 => ?_
      rw [show M1 84 24 = u (ts u E p) by rw [e1, if_pos ⟨rfl, rfl⟩]]
      exact hq M1 e1
    have o1 : ∀ M1 : Mem, (∀ b i, M1 b i = if b = 84 ∧ i = 24 then u (ts u E p) else Mm b i) → Ok (f_X10_isTold (u (ts u E p)) M1) (fun z => (z = 1 ∧ Z.1 (u (ts u E p)) ≠ -1) ∨ (z = 0 ∧ Z.1 (u (ts u E p)) = -1)) := fun M1 e1 => isTold_ok hZ (hR.same (fun c i hc => by rw [e1, if_neg (by omega)])) (Or.inr (by omega))
    by_cases hc : Z.1 (u (ts u E p)) = -1
    · refine Both.of (P := fun a => a.1 = 0 ∧ TC u E (te u E p) a.2 ∧ a.2 6 (u (ts u E p)) = r ∧ ∀ x i, x ≠ 3 → ¬ (x = 6 ∧ i = u (ts u E p)) → a.2 x i = Mc x i) (Q := fun b => b.1 = 1 ∧ TM u E (te u E p) b.2 ∧ b.2 84 24 = u (ts u E p) ∧ ∀ x i, ¬ (x = 84 ∧ ((18 ≤ i ∧ i ≤ 21) ∨ i = 24)) → b.2 x i = Mm x i) (cls ?_) (md (fun M1 e1 => ?_)) (fun a b ⟨a1, a2, a3, a4⟩ ⟨b1, b2, b3, b4⟩ => Or.inl ⟨a1, b1, _, sg.1, sg.2.1, hc, by omega, by omega, a2, a3, a4, b2, b3, b4⟩)
      · refine .bind (tell_ok (by omega) ((h6 _ (by omega) (by omega)).trans hc)) (fun q ⟨q1, q2⟩ => .let fun v ev => .ifT (ev.trans q1) (.bind (c_moveOn hE t.2.1 q.2 (fun j hj => by rw [q2, if_neg (by omega)]; exact hu j hj) (by rw [q2, if_neg (by omega)]; exact hC.1) (by rw [q2, if_neg (by omega)]; exact hC.2.2.1)) (fun M2 ⟨a, b⟩ => .ret ⟨ev.trans q1, a, ?_, fun x i hx hi => ?_⟩)))
        · show M2 6 _ = r
          rw [b 6 _ (by omega), q2, if_pos ⟨rfl, rfl⟩]
        · show M2 x i = _
          rw [b x i hx, q2, if_neg hi]
      · refine .bind (o1 M1 e1) (fun z hz => .ifT (hz.elim (fun x => absurd hc x.2) (fun x => x.1)) ?_)
        refine fl_ok ((starts_go 3 (m_advance hE t.2.1 M1 (bu_same hB.1 (fun j => by rw [e1, if_neg (by omega)])) (by rw [e1, if_neg (by omega)]; exact hM.1) (by rw [e1, if_neg (by omega)]; exact hM.2.2.1))).mono (fun b ⟨b1, b2, b3⟩ => ⟨b1, b2, ?_, fun x i hx => ?_⟩)) (fun b hb => Or.inr hb.1)
        · rw [b3 84 24 (by omega), e1, if_pos ⟨rfl, rfl⟩]
        · rw [b3 x i (by omega), e1, if_neg (by omega)]
    · refine Both.of (P := fun a => a = ((3 : Int), Mc)) (Q := fun b => b.1 = 0 ∧ b.2 84 22 = 3 ∧ b.2 84 23 = Mm 84 18 ∧ ∀ x i, ¬ (x = 84 ∧ (i = 22 ∨ i = 23 ∨ i = 24)) → b.2 x i = Mm x i) (cls ?_) (md (fun M1 e1 => ?_)) (fun a b ha ⟨b1, b2, b3, b4⟩ => Or.inr ⟨Or.inr (by rw [ha]), by rw [ha], b1, by rw [ha]; exact b2, by rw [b3, hC.2.1]; exact hM.2.1, b4⟩)
      · refine .bind (tell_no (by omega) (by rw [h6 _ (by omega) (by omega)]; exact hc)) (fun q hq => .let fun v ev => ?_)
        subst hq
        subst ev
        exact .ifF (by show ¬ (3 : Int) = 0; decide) (.ret rfl)
      · refine .bind (o1 M1 e1) (fun z hz => .ifF (hz.elim (fun x y => by omega) (fun x => absurd x.2 hc)) ?_)
        refine fl_ok ((starts_no 3 (M := M1) (by rw [e1, if_neg (by omega)]; exact h22)).mono (fun b ⟨b1, b2, b3, b4⟩ => ⟨b1, b2, ?_, fun x i hx => ?_⟩)) (fun b hb => Or.inl hb.1)
        · rw [b3, e1, if_neg (by omega)]
        · rw [b4 x i (by omega), e1, if_neg (by omega)]
  · refine Both.of (P := fun a => a = ((1 : Int), Mc)) (Q := fun b => b.1 = 0 ∧ b.2 84 22 = 1 ∧ b.2 84 23 = Mm 84 18 ∧ ∀ c i, ¬ (c = 84 ∧ (i = 22 ∨ i = 23)) → b.2 c i = Mm c i) ?_ ?_ (fun a b ha ⟨b1, b2, b3, b4⟩ => Or.inr ⟨Or.inl (by rw [ha]), by rw [ha], b1, by rw [ha]; exact b2, by rw [b3, hC.2.1]; exact hM.2.1, fun x i hx => b4 x i (by omega)⟩)
    · unfold f_X6_parseSign
      refine .bind (.val (isSigns_at hE hp hC 1)) (fun z hz => ?_)
      rw [if_neg h] at hz
      exact .ifT hz (.ret rfl)
    · unfold f_X10_takesOne
      exact .ifF (by rw [hM.2.2.2.1]; exact fun x => h (km.mp x)) (fails_fl 1 h22)
