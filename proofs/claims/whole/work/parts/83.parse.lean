/-! ===== a setup is parsed: the pieces ===== -/
/-- what a setup has told: roles, kinds, signs, whether a quote, whether a note, colours, three costs -/
abbrev Zs : Type := (Int → Int) × Int × (Nat → Int) × Int × Int × Int × Int × Int × Int
def ZsW (Z : Zs) : Prop := (∀ c, Z.1 c = -1 ∨ (0 ≤ Z.1 c ∧ Z.1 c < 2 * Z.2.1) ∨ (8 ≤ Z.1 c ∧ Z.1 c ≤ 10)) ∧ (∀ c, Z.1 c ≠ -1 → 33 ≤ c ∧ c ≤ 126) ∧ 0 ≤ Z.2.1 ∧ Z.2.1 ≤ 4 ∧ (∀ k : Nat, (k : Int) < 2 * Z.2.1 → isTxt (Z.2.2.1 k)) ∧ (Z.2.2.2.1 = 0 ∨ Z.2.2.2.1 = 1) ∧ (Z.2.2.2.2.1 = 0 ∨ Z.2.2.2.2.1 = 1) ∧ (1 ≤ Z.2.2.2.2.2.1 ∧ Z.2.2.2.2.2.1 ≤ 9) ∧ (1 ≤ Z.2.2.2.2.2.2.1 ∧ Z.2.2.2.2.2.2.1 ≤ 99) ∧ (1 ≤ Z.2.2.2.2.2.2.2.1 ∧ Z.2.2.2.2.2.2.2.1 ≤ 99) ∧ (1 ≤ Z.2.2.2.2.2.2.2.2 ∧ Z.2.2.2.2.2.2.2.2 ≤ 99)
/-- the class's roles, kinds and signs so far -/
def RsJ (Z : Zs) (M : Mem) : Prop := (∀ c, 0 ≤ c → c ≤ 126 → M 6 c = Z.1 c) ∧ M 5 2 = Z.2.1 ∧ ∀ k : Nat, (k : Int) < 2 * Z.2.1 → M 7 k = Z.2.2.1 k
def NsJ (Z : Zs) (M : Mem) : Prop := M 4 5 = Z.2.2.2.1 ∧ M 4 6 = Z.2.2.2.2.1 ∧ M 4 1 = Z.2.2.2.2.2.1 ∧ M 4 2 = Z.2.2.2.2.2.2.1 ∧ M 4 3 = Z.2.2.2.2.2.2.2.1 ∧ M 4 4 = Z.2.2.2.2.2.2.2.2
def ZsC (u : Int → Int) (E p : Nat) (Z : Zs) (M : Mem) : Prop := TC u E p M ∧ (∀ j : Nat, j < E → M 2 j = u j) ∧ RsJ Z M ∧ NsJ Z M
/-- the model's signs so far -/
def RsM (Z : Zs) (M : Mem) : Prop := M 84 7 = Z.2.1 ∧ (∀ k : Nat, (k : Int) < Z.2.1 → M 87 k = Z.2.2.1 (2 * k) ∧ M 88 k = Z.2.2.1 (2 * k + 1)) ∧ ∀ c, isTxt c → (Z.1 c = 8 ↔ c = M 84 10) ∧ (Z.1 c = 9 ↔ c = M 84 11) ∧ (Z.1 c = 10 ↔ c = M 84 12) ∧ ∀ k : Nat, (k : Int) < Z.2.1 → (Z.1 c = 2 * k ↔ c = Z.2.2.1 (2 * k)) ∧ (Z.1 c = 2 * k + 1 ↔ c = Z.2.2.1 (2 * k + 1))
def NsM (Z : Zs) (M : Mem) : Prop := (Z.2.2.2.1 = 0 ↔ M 84 10 = -1) ∧ (Z.2.2.2.2.1 = 0 ↔ M 84 12 = -1) ∧ (Z.2.2.2.1 = 0 → M 84 11 = -1) ∧ M 89 10 = Z.2.2.2.2.2.1 ∧ M 89 11 = Z.2.2.2.2.2.2.1 ∧ M 89 12 = Z.2.2.2.2.2.2.2.1 ∧ M 89 13 = Z.2.2.2.2.2.2.2.2 ∧ M 89 0 = 0 ∧ M 89 1 = 0
/-- the model's bytes: as told, and bytes -/
def Bt (u : Int → Int) (E : Nat) (M : Mem) : Prop := Bu u E M ∧ (∀ j : Nat, j < E → -128 ≤ M 91 j ∧ M 91 j < 128) ∧ ∀ j : Nat, j < E → 0 ≤ u j ∧ u j < 256
def ZsM (u : Int → Int) (E p : Nat) (Z : Zs) (M : Mem) : Prop := TM u E p M ∧ Bt u E M ∧ RsM Z M ∧ NsM Z M ∧ M 84 22 = 0 ∧ M 84 23 = -1
def FrPc (M M' : Mem) : Prop := ∀ (c : Nat) (i : Int), ¬ (3 ≤ c ∧ c ≤ 10) → M' c i = M c i
def PMz (c : Nat) (i : Int) : Prop := (c = 84 ∧ ((7 ≤ i ∧ i ≤ 12) ∨ (17 ≤ i ∧ i ≤ 24) ∨ i = 40)) ∨ (87 ≤ c ∧ c ≤ 89) ∨ (105 ≤ c ∧ c ≤ 108)
def FrPm (M M' : Mem) : Prop := ∀ (c : Nat) (i : Int), ¬ PMz c i → M' c i = M c i
theorem FrPc.trans {M M1 M2 : Mem} (h1 : FrPc M M1) (h2 : FrPc M1 M2) : FrPc M M2 := fun c i h => (h2 c i h).trans (h1 c i h)
theorem FrPm.trans {M M1 M2 : Mem} (h1 : FrPm M M1) (h2 : FrPm M1 M2) : FrPm M M2 := fun c i h => (h2 c i h).trans (h1 c i h)
theorem FrPc.rf {M : Mem} : FrPc M M := fun _ _ _ => rfl
theorem FrPm.rf {M : Mem} : FrPm M M := fun _ _ _ => rfl
theorem Bt.same {u : Int → Int} {E : Nat} {M M' : Mem} (h : Bt u E M) (e : ∀ j, M' 91 j = M 91 j) : Bt u E M' := ⟨bu_same h.1 e, fun j hj => by rw [e]; exact h.2.1 j hj, h.2.2⟩
theorem RsJ.same {Z : Zs} {M M' : Mem} (h : RsJ Z M) (e : ∀ c i, 5 ≤ c → c ≤ 7 → M' c i = M c i) : RsJ Z M' := ⟨fun c c0 c1 => (e 6 c (by omega) (by omega)).trans (h.1 c c0 c1), (e 5 2 (by omega) (by omega)).trans h.2.1, fun k hk => (e 7 k (by omega) (by omega)).trans (h.2.2 k hk)⟩
theorem NsJ.same {Z : Zs} {M M' : Mem} (h : NsJ Z M) (e : ∀ i, M' 4 i = M 4 i) : NsJ Z M' := ⟨(e _).trans h.1, (e _).trans h.2.1, (e _).trans h.2.2.1, (e _).trans h.2.2.2.1, (e _).trans h.2.2.2.2.1, (e _).trans h.2.2.2.2.2⟩
theorem RsM.same {Z : Zs} {M M' : Mem} (h : RsM Z M) (e : ∀ c i, (c = 84 ∧ (i = 7 ∨ i = 10 ∨ i = 11 ∨ i = 12)) ∨ c = 87 ∨ c = 88 → M' c i = M c i) : RsM Z M' := by
  refine ⟨(e 84 7 (by omega)).trans h.1, fun k hk => by rw [e 87 _ (by omega), e 88 _ (by omega)]; exact h.2.1 k hk, fun c hc => ?_⟩
  rw [e 84 10 (by omega), e 84 11 (by omega), e 84 12 (by omega)]
  exact h.2.2 c hc
theorem NsM.same {Z : Zs} {M M' : Mem} (h : NsM Z M) (e : ∀ c i, (c = 84 ∧ (i = 10 ∨ i = 11 ∨ i = 12)) ∨ c = 89 → M' c i = M c i) : NsM Z M' := by
  obtain ⟨h1, h2, h3, h4, h5, h6, h7, h8, h9⟩ := h
  unfold NsM
  rw [e 84 10 (by omega), e 84 11 (by omega), e 84 12 (by omega), e 89 10 (by omega), e 89 11 (by omega), e 89 12 (by omega), e 89 13 (by omega), e 89 0 (by omega), e 89 1 (by omega)]
  exact ⟨h1, h2, h3, h4, h5, h6, h7, h8, h9⟩
/-! moving on -/
theorem ZsC.move {u : Int → Int} {E p : Nat} {Z : Zs} {M : Mem} (hE : E ≤ 600) (hp : p ≤ E) (h : ZsC u E p Z M) : Ok (f_X8_moveOn M) (fun M' => ZsC u E (te u E p) Z M' ∧ FrPc M M' ∧ Fr3o M M') := by
  have t := te_is u hp
  refine (c_moveOn hE t.2.1 M h.2.1 h.1.1 h.1.2.2.1).mono (fun M' ⟨a, b⟩ => ⟨⟨a, fun j hj => (b 2 j (by omega)).trans (h.2.1 j hj), h.2.2.1.same (fun c i c0 c1 => b c i (by omega)), h.2.2.2.same (fun i => b 4 i (by omega))⟩, fun c i hc => b c i (by omega), b⟩)
theorem ZsM.move {u : Int → Int} {E p : Nat} {Z : Zs} {M : Mem} (hE : E ≤ 600) (hp : p ≤ E) (h : ZsM u E p Z M) : Ok (f_X10_advance M) (fun M' => ZsM u E (te u E p) Z M' ∧ FrPm M M' ∧ FrTk M M') := by
  have t := te_is u hp
  refine (m_advance hE t.2.1 M h.2.1.1 h.1.1 h.1.2.2.1).mono (fun M' ⟨a, b⟩ => ⟨⟨a, h.2.1.same (fun j => b 91 j (by omega)), h.2.2.1.same (fun c i hc => b c i (by omega)), h.2.2.2.1.same (fun c i hc => b c i (by omega)), (b 84 22 (by omega)).trans h.2.2.2.2.1, (b 84 23 (by omega)).trans h.2.2.2.2.2⟩, fun c i hc => b c i (fun x => hc (by unfold PMz; omega)), b⟩)
/-- the model gives up -/
theorem fails_ok (k : Int) {M : Mem} (h : M 84 22 = 0) : Ok (f_X10_fails k M) (fun r => r.1 = 0 ∧ r.2 84 22 = k ∧ r.2 84 23 = M 84 18 ∧ ∀ c i, ¬ (c = 84 ∧ (i = 22 ∨ i = 23)) → r.2 c i = M c i) := by
  unfold f_X10_fails
  refine .ifT h (.put fun M1 e1 => ?_)
  rw [show M1 84 18 = M 84 18 by rw [e1, if_neg (by omega)]]
  refine .put fun M2 e2 => .ret ⟨rfl, ?_, ?_, fun c i hc => ?_⟩
  · show M2 84 22 = k
    rw [e2, if_neg (by omega), e1, if_pos ⟨rfl, rfl⟩]
  · show M2 84 23 = M 84 18
    rw [e2, if_pos ⟨rfl, rfl⟩]
  · show M2 c i = M c i
    rw [e2, if_neg (by omega), e1, if_neg (by omega)]
/-- .. and its flag is looked at -/
theorem fails_fl (k : Int) {M : Mem} (h : M 84 22 = 0) : Ok ((f_X10_fails k M).bind fun p => if p.1 = 0 ∨ p.1 = 1 then some (p.1, p.2) else none) (fun r => r.1 = 0 ∧ r.2 84 22 = k ∧ r.2 84 23 = M 84 18 ∧ ∀ c i, ¬ (c = 84 ∧ (i = 22 ∨ i = 23)) → r.2 c i = M c i) :=
  .bind (fails_ok k h) (fun p hp => .ifT (Or.inl hp.1) (.ret hp))
/-- both failed alike -/
def BadP (Mc Mm : Mem) (a b : Int × Mem) : Prop := 1 ≤ a.1 ∧ a.1 ≤ 4 ∧ b.1 = 0 ∧ b.2 84 22 = a.1 ∧ b.2 84 23 = a.2 3 2 ∧ FrPc Mc a.2 ∧ FrPm Mm b.2
def GoodP (u : Int → Int) (E p : Nat) (K : Int) (Mc Mm : Mem) (a b : Int × Mem) : Prop := a.1 = 0 ∧ b.1 = 1 ∧ (∃ (p' : Nat) (Z' : Zs), p < p' ∧ p' ≤ E ∧ ZsW Z' ∧ Z'.2.1 = K ∧ ZsC u E p' Z' a.2 ∧ ZsM u E p' Z' b.2) ∧ FrPc Mc a.2 ∧ FrPm Mm b.2
def Both {α β : Type} (x : Option α) (y : Option β) (R : α → β → Prop) : Prop := ∃ a b, x = some a ∧ y = some b ∧ R a b
theorem Both.of {α β : Type} {x : Option α} {y : Option β} {P : α → Prop} {Q : β → Prop} {R : α → β → Prop} (hx : Ok x P) (hy : Ok y Q) (h : ∀ a b, P a → Q b → R a b) : Both x y R := by
  obtain ⟨a, ea, pa⟩ := hx
  obtain ⟨b, eb, qb⟩ := hy
  exact ⟨a, b, ea, eb, h a b pa qb⟩
theorem Both.bind {α β γ δ : Type} {x : Option α} {y : Option β} {f : α → Option γ} {g : β → Option δ} {R : α → β → Prop} {S : γ → δ → Prop} (hx : Both x y R) (h : ∀ a b, R a b → Both (f a) (g b) S) : Both (x.bind f) (y.bind g) S := by
  obtain ⟨a, b, rfl, rfl, hr⟩ := hx
  exact h a b hr
theorem Both.mono {α β : Type} {x : Option α} {y : Option β} {R S : α → β → Prop} (hx : Both x y R) (h : ∀ a b, R a b → S a b) : Both x y S := by
  obtain ⟨a, b, ea, eb, hr⟩ := hx
  exact ⟨a, b, ea, eb, h a b hr⟩
theorem Both.bl {α β γ : Type} {x : Option α} {y : Option β} {f : α → Option γ} {P : α → Prop} {S : γ → β → Prop} (hx : Ok x P) (h : ∀ a, P a → Both (f a) y S) : Both (x.bind f) y S := by
  obtain ⟨a, rfl, pa⟩ := hx
  exact h a pa
theorem Both.br {α β γ : Type} {x : Option α} {y : Option β} {g : β → Option γ} {Q : β → Prop} {S : α → γ → Prop} (hy : Ok y Q) (h : ∀ b, Q b → Both x (g b) S) : Both x (y.bind g) S := by
  obtain ⟨b, rfl, qb⟩ := hy
  exact h b qb
theorem Both.lT {α β : Type} {c : Prop} [Decidable c] {x x' : Option α} {y : Option β} {R : α → β → Prop} (hc : c) (h : Both x y R) : Both (if c then x else x') y R := by rw [if_pos hc]; exact h
theorem Both.lF {α β : Type} {c : Prop} [Decidable c] {x x' : Option α} {y : Option β} {R : α → β → Prop} (hc : ¬ c) (h : Both x' y R) : Both (if c then x else x') y R := by rw [if_neg hc]; exact h
theorem Both.rT {α β : Type} {c : Prop} [Decidable c] {x : Option α} {y y' : Option β} {R : α → β → Prop} (hc : c) (h : Both x y R) : Both x (if c then y else y') R := by rw [if_pos hc]; exact h
theorem Both.rF {α β : Type} {c : Prop} [Decidable c] {x : Option α} {y y' : Option β} {R : α → β → Prop} (hc : ¬ c) (h : Both x y' R) : Both x (if c then y else y') R := by rw [if_neg hc]; exact h
theorem Both.ll {α β γ : Type} {a : α} {k : α → Option β} {y : Option γ} {R : β → γ → Prop} (h : Both (k a) y R) : Both (lt1 a k) y R := h
theorem Both.rl {α β γ : Type} {a : α} {k : α → Option β} {x : Option γ} {R : γ → β → Prop} (h : Both x (k a) R) : Both x (lt1 a k) R := h
theorem Both.ret {α β : Type} {a : α} {b : β} {R : α → β → Prop} (h : R a b) : Both (some a) (some b) R := ⟨a, b, rfl, rfl, h⟩
/-- fresh ground: the same position, not moved -/
theorem bad_here {u : Int → Int} {E p : Nat} {Z : Zs} {Mc Mm : Mem} (hC : ZsC u E p Z Mc) {k : Int} (hk : 1 ≤ k ∧ k ≤ 4) (hM : TM u E p Mm) {r : Int × Mem} (h : r.1 = 0 ∧ r.2 84 22 = k ∧ r.2 84 23 = Mm 84 18 ∧ ∀ c i, ¬ (c = 84 ∧ (i = 22 ∨ i = 23)) → r.2 c i = Mm c i) : BadP Mc Mm (k, Mc) r := by
  obtain ⟨h1, h2, h3, h4⟩ := h
  exact ⟨hk.1, hk.2, h1, h2, by show r.2 84 23 = Mc 3 2; rw [h3, hM.2.1, hC.1.2.1], FrPc.rf, fun c i hc => h4 c i (fun x => hc (by unfold PMz; omega))⟩
/-- a semicolon -/
theorem p_semi {u : Int → Int} {E p : Nat} {Z : Zs} {Mc Mm : Mem} (hE : E ≤ 600) (hp : p ≤ E) (hZ : ZsW Z) (hC : ZsC u E p Z Mc) (hM : ZsM u E p Z Mm) : Both (f_X8_passSemicolon Mc) (f_X10_semicolon Mm) (fun a b => GoodP u E p Z.2.1 Mc Mm a b ∨ BadP Mc Mm a b) := by
  have t := te_is u hp
  have s := ts_is u hp
  have km : tkm u E p = 3 ↔ tk u E p = 3 := by unfold tkm; split <;> (try split) <;> omega
  unfold f_X8_passSemicolon f_X10_semicolon
  by_cases h : tk u E p = 3
  · have ti := tk_is u hp h (by decide) (by decide)
    refine .lT (by rw [hC.1.2.2.2]; exact h) (.rT (by rw [hM.1.2.2.2.1]; exact km.mpr h) ?_)
    refine Both.of (P := fun a => a.1 = 0 ∧ ZsC u E (te u E p) Z a.2 ∧ FrPc Mc a.2) (Q := fun b => b.1 = 1 ∧ ZsM u E (te u E p) Z b.2 ∧ FrPm Mm b.2) (.bind (hC.move hE hp) (fun M1 ⟨a, b, _⟩ => .ret ⟨rfl, a, b⟩)) ?_ (fun a b ⟨a1, a2, a3⟩ ⟨b1, b2, b3⟩ => Or.inl ⟨a1, b1, ⟨te u E p, Z, by omega, t.2.1, hZ, rfl, a2, b2⟩, a3, b3⟩)
    refine .bind (Q := fun b => b.1 = 1 ∧ ZsM u E (te u E p) Z b.2 ∧ FrPm Mm b.2) ?_ (fun b hb => .ifT (Or.inr hb.1) (.ret hb))
    unfold f_X10_starts
    exact .ifF (by decide) (.bind (hM.move hE hp) (fun M1 ⟨a, b, _⟩ => .ret ⟨rfl, a, b⟩))
  · refine .lF (by rw [hC.1.2.2.2]; exact h) (.rF (by rw [hM.1.2.2.2.1]; exact fun x => h (km.mp x)) ?_)
    refine Both.of (P := fun a => a = ((1 : Int), Mc)) (.ret rfl) (Q := fun b => b.1 = 0 ∧ b.2 84 22 = 1 ∧ b.2 84 23 = Mm 84 18 ∧ ∀ c i, ¬ (c = 84 ∧ (i = 22 ∨ i = 23)) → b.2 c i = Mm c i) ?_ (fun a b ha hb => Or.inr (by rw [ha]; exact bad_here hC (by omega) hM.1 hb))
    refine .bind (Q := fun b => b.1 = 0 ∧ b.2 84 22 = 1 ∧ b.2 84 23 = Mm 84 18 ∧ ∀ c i, ¬ (c = 84 ∧ (i = 22 ∨ i = 23)) → b.2 c i = Mm c i) ?_ (fun b hb => .ifT (Or.inl hb.1) (.ret hb))
    unfold f_X10_starts
    exact .ifT rfl (fails_fl 1 hM.2.2.2.2.1)
/-- a number -/
theorem c_num_L {u : Int → Int} {E p : Nat} (hE : E ≤ 600) (hp : p ≤ E) (ht : tk u E p = 2) {Q : Int × Mem → Prop} (lo hi : Int) (M : Mem) (hu : ∀ j : Nat, j < E → M 2 j = u j) (hT : TC u E p M) (K : Ok (f_X8_takeNumber_K51 lo hi (dec u (ts u E p) (te u E p - ts u E p)) M) Q) : ∀ (r fuel n : Nat), te u E p - ts u E p - n = r → r < fuel → n ≤ te u E p - ts u E p → Ok (f_X8_takeNumber_L18 fuel lo hi (dec u (ts u E p) n) ((ts u E p + n : Nat) : Int) M) Q := by
  have t := te_is u hp
  have ti := tk_is u hp ht (by decide) (by decide)
  have l3 : lng 2 = 3 := by decide
  intro r
  induction r with
  | zero =>
    intro fuel n hr hf hn
    obtain ⟨fuel, rfl⟩ : ∃ f, fuel = f + 1 := ⟨fuel - 1, by omega⟩
    have en : n = te u E p - ts u E p := by omega
    rw [f_X8_takeNumber_L18, hT.2.2.1]
    refine .ifT (by omega) ?_
    rw [en]
    exact K
  | succ r ih =>
    intro fuel n hr hf hn
    obtain ⟨fuel, rfl⟩ : ∃ f, fuel = f + 1 := ⟨fuel - 1, by omega⟩
    have dg := (srt_2 (u ((ts u E p + n : Nat) : Int))).mp (ti.2.2.2.2.2 (ts u E p + n) (by omega) (by omega))
    have db := dec_bd (u := u) (s := ts u E p) n (by omega) (fun j hj => (srt_2 _).mp (ti.2.2.2.2.2 (ts u E p + j) (by omega) (by omega)))
    rw [f_X8_takeNumber_L18, hT.2.2.1]
    refine .ifF (by omega) (.bind (.val (ibyteAt_ok _ M)) (fun y hy => .let fun x ex => .let fun v ev => ?_))
    rw [if_pos (by omega), hu _ (by omega)] at hy
    subst hy
    rw [w32_of (i := 10 * dec u (ts u E p) n) (by omega) (by omega), w32_of (i := 10 * dec u (ts u E p) n + u ((ts u E p + n : Nat) : Int)) (by omega) (by omega), w32_of (by omega) (by omega)] at ex
    rw [w32_of (by omega) (by omega)] at ev
    have ev2 : v = ((ts u E p + (n + 1) : Nat) : Int) := by omega
    have ex2 : x = dec u (ts u E p) (n + 1) := ex
    subst ev2
    subst ex2
    exact ih fuel (n + 1) (by omega) (by omega) (by omega)
theorem dec_tk {u : Int → Int} {E p : Nat} (hp : p ≤ E) (ht : tk u E p = 2) : 0 ≤ dec u (ts u E p) (te u E p - ts u E p) ∧ dec u (ts u E p) (te u E p - ts u E p) ≤ 999 := by
  have ti := tk_is u hp ht (by decide) (by decide)
  have l3 : lng 2 = 3 := by decide
  have db := dec_bd (u := u) (s := ts u E p) (te u E p - ts u E p) (by omega) (fun j hj => (srt_2 _).mp (ti.2.2.2.2.2 (ts u E p + j) (by omega) (by omega)))
  omega
/-- a number taken by both: its value, or the same failure -/
theorem p_num {u : Int → Int} {E p : Nat} {Mc Mm : Mem} (hE : E ≤ 600) (hp : p ≤ E) (lo hi : Int) (hlo : 0 ≤ lo) (hu : ∀ j : Nat, j < E → Mc 2 j = u j) (hC : TC u E p Mc) (hM : TM u E p Mm) (hB : Bt u E Mm) (h22 : Mm 84 22 = 0) : Both (f_X8_takeNumber lo hi Mc) (f_X10_takes lo hi Mm) (fun a b => (lo ≤ a.1 ∧ a.1 ≤ hi ∧ b.1 = 1 ∧ p < te u E p ∧ te u E p ≤ E ∧ TC u E (te u E p) a.2 ∧ TM u E (te u E p) b.2 ∧ b.2 84 24 = a.1 ∧ Fr3o Mc a.2 ∧ ∀ c i, ¬ (c = 84 ∧ ((18 ≤ i ∧ i ≤ 21) ∨ i = 24)) → b.2 c i = Mm c i) ∨ (a.1 < 0 ∧ -4 ≤ a.1 ∧ a.2 = Mc ∧ b.1 = 0 ∧ b.2 84 22 = - a.1 ∧ b.2 84 23 = Mc 3 2 ∧ ∀ c i, ¬ (c = 84 ∧ (i = 22 ∨ i = 23 ∨ i = 24)) → b.2 c i = Mm c i)) := by
  have t := te_is u hp
  have s := ts_is u hp
  have km : tkm u E p = 2 ↔ tk u E p = 2 := by unfold tkm; split <;> (try split) <;> omega
  by_cases h : tk u E p = 2
  · have ti := tk_is u hp h (by decide) (by decide)
    have db := dec_tk hp h
    have h21 := hM.2.2.2.2 h
    by_cases hv : lo ≤ dec u (ts u E p) (te u E p - ts u E p) ∧ dec u (ts u E p) (te u E p - ts u E p) ≤ hi
    · refine Both.of (P := fun a => a.1 = dec u (ts u E p) (te u E p - ts u E p) ∧ TC u E (te u E p) a.2 ∧ Fr3o Mc a.2) (Q := fun b => b.1 = 1 ∧ TM u E (te u E p) b.2 ∧ b.2 84 24 = dec u (ts u E p) (te u E p - ts u E p) ∧ ∀ c i, ¬ (c = 84 ∧ ((18 ≤ i ∧ i ≤ 21) ∨ i = 24)) → b.2 c i = Mm c i) ?_ ?_ (fun a b ⟨a1, a2, a3⟩ ⟨b1, b2, b3, b4⟩ => Or.inl ⟨by omega, by omega, b1, by omega, t.2.1, a2, b2, by omega, a3, b4⟩)
      · unfold f_X8_takeNumber
        refine .ifT (by rw [hC.2.2.2]; exact h) (.let fun v ev => ?_)
        have ev2 : v = ((ts u E p + 0 : Nat) : Int) := ev.trans hC.2.1
        subst ev2
        refine c_num_L hE hp h lo hi Mc hu hC ?_ (te u E p - ts u E p) 4096 0 (by omega) (by omega) (by omega)
        unfold f_X8_takeNumber_K51
        exact .ifF (by omega) (.ifT (by omega) (.bind (c_moveOn hE t.2.1 Mc hu hC.1 hC.2.2.1) (fun M1 ⟨a, b⟩ => .ret ⟨rfl, a, b⟩)))
      · unfold f_X10_takes
        refine .ifT (by rw [hM.2.2.2.1]; exact km.mpr h) (.put fun M1 e1 => ?_)
        rw [show M1 84 21 = dec u (ts u E p) (te u E p - ts u E p) by rw [e1, if_neg (by omega)]; exact h21]
        refine .bind (.val (isIn_y M1 hv)) (fun z hz => ?_)
        subst hz
        refine .bind (Q := fun b => b.1 = 1 ∧ TM u E (te u E p) b.2 ∧ b.2 84 24 = dec u (ts u E p) (te u E p - ts u E p) ∧ ∀ c i, ¬ (c = 84 ∧ ((18 ≤ i ∧ i ≤ 21) ∨ i = 24)) → b.2 c i = Mm c i) ?_ (fun b hb => .ifT (Or.inr hb.1) (.ret hb))
        unfold f_X10_starts
        refine .ifF (by decide) (.bind (m_advance hE t.2.1 M1 (bu_same hB.1 (fun j => by rw [e1, if_neg (by omega)])) (by rw [e1, if_neg (by omega)]; exact hM.1) (by rw [e1, if_neg (by omega)]; exact hM.2.2.1)) (fun M2 ⟨a, b⟩ => .ret ⟨rfl, a, ?_, fun c i hc => ?_⟩))
        · show M2 84 24 = _
          rw [b 84 24 (by omega), e1, if_pos ⟨rfl, rfl⟩]; exact h21
        · show M2 c i = _
          rw [b c i (by omega), e1, if_neg (by omega)]
    · refine Both.of (P := fun a => a = ((-2 : Int), Mc)) (Q := fun b => b.1 = 0 ∧ b.2 84 22 = 2 ∧ b.2 84 23 = ((ts u E p : Nat) : Int) ∧ ∀ c i, ¬ (c = 84 ∧ (i = 22 ∨ i = 23 ∨ i = 24)) → b.2 c i = Mm c i) ?_ ?_ (fun a b ha ⟨b1, b2, b3, b4⟩ => Or.inr ⟨by rw [ha]; show (_ : Int) < 0; omega, by rw [ha]; show (-4 : Int) ≤ _; omega, by rw [ha], b1, by rw [ha]; exact b2, by rw [b3, hC.2.1], b4⟩)
      · unfold f_X8_takeNumber
        refine .ifT (by rw [hC.2.2.2]; exact h) (.let fun v ev => ?_)
        have ev2 : v = ((ts u E p + 0 : Nat) : Int) := ev.trans hC.2.1
        subst ev2
        refine c_num_L hE hp h lo hi Mc hu hC ?_ (te u E p - ts u E p) 4096 0 (by omega) (by omega) (by omega)
        unfold f_X8_takeNumber_K51
        exact .ifC (fun _ => .ret rfl) (fun _ => .ifF (by omega) (.ret rfl))
      · unfold f_X10_takes
        refine .ifT (by rw [hM.2.2.2.1]; exact km.mpr h) (.put fun M1 e1 => ?_)
        rw [show M1 84 21 = dec u (ts u E p) (te u E p - ts u E p) by rw [e1, if_neg (by omega)]; exact h21]
        refine .bind (.val (isIn_n M1 hv)) (fun z hz => ?_)
        subst hz
        refine .bind (Q := fun b => b.1 = 0 ∧ b.2 84 22 = 2 ∧ b.2 84 23 = ((ts u E p : Nat) : Int) ∧ ∀ c i, ¬ (c = 84 ∧ (i = 22 ∨ i = 23 ∨ i = 24)) → b.2 c i = Mm c i) ?_ (fun b hb => .ifT (Or.inl hb.1) (.ret hb))
        unfold f_X10_starts
        refine .ifT rfl ((fails_fl 2 (M := M1) (by rw [e1, if_neg (by omega)]; exact h22)).mono (fun r ⟨r1, r2, r3, r4⟩ => ⟨r1, r2, ?_, fun c i hc => ?_⟩))
        · rw [r3, e1, if_neg (by omega)]; exact hM.2.1
        · rw [r4 c i (by omega), e1, if_neg (by omega)]
  · refine Both.of (P := fun a => a = ((-1 : Int), Mc)) (Q := fun b => b.1 = 0 ∧ b.2 84 22 = 1 ∧ b.2 84 23 = Mm 84 18 ∧ ∀ c i, ¬ (c = 84 ∧ (i = 22 ∨ i = 23)) → b.2 c i = Mm c i) ?_ ?_ (fun a b ha ⟨b1, b2, b3, b4⟩ => Or.inr ⟨by rw [ha]; show (_ : Int) < 0; omega, by rw [ha]; show (-4 : Int) ≤ _; omega, by rw [ha], b1, by rw [ha]; exact b2, by rw [b3, hC.2.1]; exact hM.2.1, fun c i hc => b4 c i (by omega)⟩)
    · unfold f_X8_takeNumber
      exact .ifF (by rw [hC.2.2.2]; exact h) (.ret rfl)
    · unfold f_X10_takes
      exact .ifF (by rw [hM.2.2.2.1]; exact fun x => h (km.mp x)) (fails_fl 1 h22)
