/-! ===== the setup ===== -/
theorem lawB {M : Mem} {X : Option (Nat × Int × Mem)} {W : Nat × Int × Mem → Option (Int × Mem)} {Y : Mem → Option (Int × Mem)} {T : Tx} {G : Sn} {B : Bx} (hM : MoI T G B M)
    (h : ∀ M1, MoI T G B M1 → Both X (Y M1) (fun r q => r.1 = 0 ∧ FrC M r.2.2 ∧ q.2 84 0 = 0 ∧ q.1 = r.2.1 ∧ FrM M1 q.2 ∧ ∃ T' G' B', WT T' ∧ WG G' ∧ WB B' ∧ CI T' G' B' r.2.2 ∧ MoI T' G' B' q.2))
    (hWr : ∀ v M1, W (0, v, M1) = some (0, up M1 113 0 v)) :
    Ok ((X.bind W).bind fun p => (Y p.2).bind fun q => (f_X10_thrown q.2).bind fun t => if t = p.1 then if p.1 = 0 then if q.2 113 0 = q.1 then some q.2 else none else some q.2 else none) (fun M' => ∃ T' G' B', WT T' ∧ WG G' ∧ WB B' ∧ CI T' G' B' M' ∧ MoI T' G' B' M') := by
  obtain ⟨r, _, er, _, r1, r2, _⟩ := h M hM
  obtain ⟨t, v, Mc⟩ := r
  have r1 : t = 0 := r1
  subst r1
  have hM2 : MoI T G B (up Mc 113 0 v) := hM.same (fun c i h0 h1 => (if_neg (by omega)).trans (r2 c i h0))
  obtain ⟨r', q, er', eq', s1, s2, s3, s4, s5, T', G', B', w1, w2, w3, w4, w5⟩ := h _ hM2
  have e : r' = (0, v, Mc) := by rw [er] at er'; exact (Option.some.inj er').symm
  subst e
  rw [er, obs, hWr, obs]
  have eq' : Y (up Mc 113 0 v) = some q := eq'
  show Ok ((Y (up Mc 113 0 v)).bind _) _
  rw [eq', obs]
  refine .bind (.val (v := q.2 84 0) rfl) (fun t ht => .ifT (ht.trans s3) (.ifT rfl (.ifT ?_ (.ret ⟨T', G', B', w1, w2, w3, CI.same w1 w4 (fun c i hc => (s5 c i (Or.inl hc)).trans (if_neg (by omega))), w5⟩))))
  rw [s5 113 0 (Or.inr (Nat.le_refl _))]
  exact (if_pos ⟨rfl, rfl⟩).trans s4.symm
theorem Both.lb {α β γ : Type} {x : Option α} {y : Option β} {f : α → Option γ} {S : α → β → Prop} {R : γ → β → Prop} (h : Both x y S) (hf : ∀ a b, S a b → Both (f a) (some b) R) : Both (x.bind f) y R := by
  obtain ⟨a, b, rfl, rfl, hs⟩ := h
  exact hf a b hs
theorem begin_ok {B : Bx} {E : Nat} (hE : E ≤ 600) {M : Mem} (hu : ∀ j : Nat, j < E → M 2 j = B.2.1 j) : Ok (f_X8_begin E M) (fun M' => TC B.2.1 E 0 M' ∧ Fr3o M M') := by
  unfold f_X8_begin
  refine .put fun M1 e1 => .put fun M2 e2 => .bind (c_moveOn (u := B.2.1) (p := 0) hE (Nat.zero_le E) M2 (fun j hj => by rw [e2, if_neg (by omega), e1, if_neg (by omega)]; exact hu j hj) (by rw [e2, if_neg (by omega), e1, if_pos ⟨rfl, rfl⟩]) (by rw [e2, if_pos ⟨rfl, rfl⟩]; rfl)) (fun M3 ⟨a, b⟩ => .ret ⟨a, fun c i hc => by rw [b c i hc, e2, if_neg (by omega), e1, if_neg (by omega)]⟩)
theorem beginsText_ok {B : Bx} {E : Nat} (hE : E ≤ 600) {M : Mem} (hu : Bu B.2.1 E M) : Ok (f_X10_beginsText E M) (fun M' => TM B.2.1 E 0 M' ∧ M' 84 22 = 0 ∧ M' 84 23 = -1 ∧ M' 84 16 = 0 ∧ ∀ c i, ¬ (c = 84 ∧ 16 ≤ i ∧ i ≤ 23) → M' c i = M c i) := by
  unfold f_X10_beginsText
  refine .put fun M1 e1 => .put fun M2 e2 => .put fun M3 e3 => .put fun M4 e4 => .put fun M5 e5 => ?_
  have o : ∀ c i, ¬ (c = 84 ∧ 16 ≤ i ∧ i ≤ 23) → M5 c i = M c i := fun c i h => by rw [e5, if_neg (by omega), e4, if_neg (by omega), e3, if_neg (by omega), e2, if_neg (by omega), e1, if_neg (by omega)]
  refine .bind (m_advance (u := B.2.1) (p := 0) hE (Nat.zero_le E) M5 (bu_same hu (fun j => o 91 j (by omega))) (by rw [e5, if_neg (by omega), e4, if_neg (by omega), e3, if_neg (by omega), e2, if_neg (by omega), e1, if_pos ⟨rfl, rfl⟩]) (by rw [e5, if_neg (by omega), e4, if_neg (by omega), e3, if_pos ⟨rfl, rfl⟩]; rfl)) (fun M6 ⟨a, b⟩ => .ret ⟨a, ?_, ?_, ?_, fun c i hc => (b c i (by omega)).trans (o c i hc)⟩)
  · rw [b 84 22 (by omega), e5, if_neg (by omega), e4, if_pos ⟨rfl, rfl⟩]
  · rw [b 84 23 (by omega), e5, if_pos ⟨rfl, rfl⟩]
  · rw [b 84 16 (by omega), e5, if_neg (by omega), e4, if_neg (by omega), e3, if_neg (by omega), e2, if_pos ⟨rfl, rfl⟩]
/-- an error stands, the input is gone -/
def errB (B : Bx) (er : Int) : Bx := (0, B.2.1, er, B.2.2.2)
theorem errB_w {B : Bx} (h : WB B) (er : Int) : WB (errB B er) := ⟨Int.le_refl 0, by show (0 : Int) ≤ 600; omega, fun j j0 j1 => by have j1 : j < 0 := j1; omega, h.2.2.2.1, h.2.2.2.2⟩
theorem CI.err {T : Tx} {G : Sn} {B : Bx} {M M' : Mem} {er : Int} (hW : WT T) (h : CI T G B M) (o : ∀ c i, c < 84 → ¬ (3 ≤ c ∧ c ≤ 10) → ¬ (c = 0 ∧ i = 15) → ¬ (c = 1 ∧ i = 1) → M' c i = M c i) (h1 : M' 1 1 = 0) (hE : M' 0 15 = er) : CI T G (errB B er) M' := by
  obtain ⟨g1, g2, g3, g4, g5, g6, g7, g8⟩ := h
  refine ⟨g1.same (fun i => o _ i (by omega) (by omega) (by omega) (by omega)) (fun i => o _ i (by omega) (by omega) (by omega) (by omega)) (fun i => o _ i (by omega) (by omega) (by omega) (by omega)), g2.same hW.2.1.2.1 (fun c i hc => o c i (by omega) (by omega) (by omega) (by omega)), g3.same (fun c i hc => o c i (by omega) (by omega) (by omega) (by omega)), g4.same (fun c i hc => o c i (by omega) (by omega) (by omega) (by omega)), ⟨h1, fun j j0 j1 => by have j1 : j < 0 := j1; omega⟩, hE, g7.same (fun c i hc => o c i (by omega) (by omega) (by omega) (by omega)), fun x => ?_, fun x => ?_⟩
  · exact (g8.1 (by rw [← o 0 16 (by omega) (by omega) (by omega) (by omega)]; exact x)).same (fun c i _ _ => o c i (by omega) (by omega) (by omega) (by omega))
  · exact (g8.2 (by rw [← o 0 17 (by omega) (by omega) (by omega) (by omega)]; exact x)).same (fun c i _ => o c i (by omega) (by omega) (by omega) (by omega))
theorem MoI.err {T : Tx} {G : Sn} {B : Bx} {M M' : Mem} {er : Int} (h : MoI T G B M) (o : ∀ c i, 84 ≤ c → c < 113 → ¬ PMz c i → ¬ (c = 84 ∧ (i = 0 ∨ i = 16)) → M' c i = M c i) (h1 : M' 84 16 = 0) (hE : M' 84 23 = er) : MoI T G (errB B er) M' := by
  obtain ⟨g1, g2, g3, g4, g5, g6, g7⟩ := h
  have o2 : ∀ c i, 84 ≤ c → c < 113 → ¬ (c = 84 ∧ (i = 0 ∨ i = 16 ∨ (7 ≤ i ∧ i ≤ 12) ∨ (17 ≤ i ∧ i ≤ 24) ∨ i = 40)) → ¬ (87 ≤ c ∧ c ≤ 89) → ¬ (105 ≤ c ∧ c ≤ 108) → M' c i = M c i := fun c i a1 a2 a3 a4 a5 => o c i a1 a2 (by unfold PMz; omega) (by omega)
  exact ⟨g1.same (fun i => o2 90 i (by omega) (by omega) (by omega) (by omega) (by omega)), g2.same (fun c i hc => o2 c i (by omega) (by omega) (by omega) (by omega) (by omega)), g3.same (fun c i hc => o2 c i (by omega) (by omega) (by omega) (by omega) (by omega)), g4.same (fun c i hc => o2 c i (by omega) (by omega) (by omega) (by omega) (by omega)), ⟨h1, fun j j0 j1 => by have j1 : j < 0 := j1; omega⟩, hE, g7.same (fun c i hc => o2 c i (by omega) (by omega) (by omega) (by omega) (by omega))⟩
/-- the page of a setup -/
def sPg (Z : Zs) : Pg := (0, 0, Z.2.2.2.2.2.1, Z.2.2.2.2.2.2.1, Z.2.2.2.2.2.2.2.1, Z.2.2.2.2.2.2.2.2, fun _ => 0, fun _ => 0)
def sSn (Z : Zs) : Sn := (Z.1, Z.2.1, Z.2.2.1)
theorem sPg_w {Z : Zs} (h : ZsW Z) : Wf (sPg Z) := by
  obtain ⟨z1, z2, z3, z4, z5, z6, z7, z8, z9, z10, z11⟩ := h
  exact ⟨⟨Int.le_refl 0, by show (0 : Int) ≤ 240; omega, Int.le_refl 0, by show (0 : Int) ≤ 8; omega⟩, ⟨z8.1, z8.2, z9.1, z9.2, z10.1, z10.2, z11.1, z11.2⟩, fun p p0 p1 => by have p1 : p < 0 := p1; omega, fun k k0 k1 => by have k1 : k < 0 := k1; omega⟩
theorem sSn_w {Z : Zs} (h : ZsW Z) (h1 : 1 ≤ Z.2.1) : WG (sSn Z) := by
  obtain ⟨z1, z2, z3, z4, z5, _⟩ := h
  refine ⟨z1, ?_, h1, z4, z5⟩
  show Z.1 10 = -1
  by_cases e : Z.1 10 = -1
  · exact e
  · have := z2 10 e; omega
/-- the class takes the signs over -/
theorem csg_of {Z : Zs} {M M' : Mem} (hZ : ZsW Z) (h : RsJ Z M) (e12 : ∀ c, 0 ≤ c → c ≤ 126 → M' 12 c = M 6 c) (e13 : ∀ k, 0 ≤ k → k < 8 → M' 13 k = M 7 k) (e2 : M' 11 2 = M 5 2) : CSg (sSn Z) M' := by
  obtain ⟨z1, z2, z3, z4, z5, _⟩ := hZ
  refine ⟨⟨fun c => ?_, fun c => ?_, ?_⟩, e2.trans h.2.1, fun k hk => ?_⟩
  · show (if 0 ≤ c ∧ c ≤ 126 then M' 12 c else -1) = Z.1 c
    by_cases hc : 0 ≤ c ∧ c ≤ 126
    · rw [if_pos hc, e12 c hc.1 hc.2]; exact h.1 c hc.1 hc.2
    · rw [if_neg hc]
      by_cases e : Z.1 c = -1
      · exact e.symm
      · have := z2 c e; omega
  · show Z.1 c = -1 ∨ (0 ≤ Z.1 c ∧ Z.1 c ≤ 10)
    have := z1 c
    omega
  · show Z.1 10 = -1
    by_cases e : Z.1 10 = -1
    · exact e
    · have := z2 10 e; omega
  · have hk : (k : Int) < 2 * Z.2.1 := hk
    rw [e13 k (by omega) (by omega)]
    exact h.2.2 k hk
theorem msg_of {Z : Zs} {M M' : Mem} (hZ : ZsW Z) (hk : 1 ≤ Z.2.1) (h : RsM Z M) (e1 : M' 84 1 = M 84 7) (e4 : M' 84 4 = M 84 10) (e5 : M' 84 5 = M 84 11) (e6 : M' 84 6 = M 84 12) (e85 : ∀ j : Nat, j < 4 → M' 85 j = M 87 j ∧ M' 86 j = M 88 j) : MSg (sSn Z) M' := by
  obtain ⟨z1, z2, z3, z4, z5, _⟩ := hZ
  obtain ⟨h1, h2, h3⟩ := h
  have k1 : M' 84 1 = Z.2.1 := e1.trans h1
  refine ⟨⟨by omega, by omega, fun c hc => ?_⟩, k1, fun j hj => ?_⟩
  · obtain ⟨a1, a2, a3, a4⟩ := h3 c hc
    rw [e4, e5, e6]
    refine ⟨a1, a2, a3, fun k k0 kk => ?_, ?_⟩
    · obtain ⟨j, rfl⟩ : ∃ j : Nat, k = j := ⟨k.toNat, by omega⟩
      rw [(e85 j (by omega)).1, (e85 j (by omega)).2, (h2 j (by omega)).1, (h2 j (by omega)).2]
      exact a4 j (by omega)
    · rw [k1]; exact z1 c
  · have hj : (j : Int) < Z.2.1 := hj
    rw [(e85 j (by omega)).1, (e85 j (by omega)).2]
    exact h2 j hj
theorem copySg_ok (M : Mem) : Ok (f_X7_copyFrom 11 5 M) (fun M' => (∀ c, 0 ≤ c → c ≤ 126 → M' 12 c = M 6 c) ∧ (∀ k, 0 ≤ k → k < 8 → M' 13 k = M 7 k) ∧ M' 11 2 = M 5 2 ∧ ∀ c i, ¬ (11 ≤ c ∧ c ≤ 13) → M' c i = M c i) := by
  unfold f_X7_copyFrom
  refine .ifT (by decide) (.cpy fun M1 e1 => .ifT (by decide) (.cpy fun M2 e2 => .put fun M3 e3 => .ret ⟨fun c h0 h1 => ?_, fun k h0 h1 => ?_, ?_, fun c i hc => ?_⟩))
  · rw [e3, if_neg (by omega), e2, if_neg (by omega), e1, if_pos (by omega), show (0 : Int) + (c - 0) = c by omega]
  · rw [e3, if_neg (by omega), e2, if_pos (by omega), show (0 : Int) + (k - 0) = k by omega, e1, if_neg (by omega)]
  · rw [e3, if_pos ⟨rfl, rfl⟩, e2, if_neg (by omega), e1, if_neg (by omega)]
  · rw [e3, if_neg (by omega), e2, if_neg (by omega), e1, if_neg (by omega)]
