/-! ===== the setup: the law ===== -/
def SetS (T : Tx) (G : Sn) (B : Bx) (Mc M1 : Mem) (a b : Int × Mem) : Prop := FrPc Mc a.2 ∧ FrM M1 b.2 ∧ b.2 84 0 = 0 ∧ b.1 = a.1 ∧ ((a.1 = 0 ∧ ∃ Z, ZsW Z ∧ 1 ≤ Z.2.1 ∧ RsJ Z a.2 ∧ NsJ Z a.2 ∧ MoI (newT T (sPg Z)) (sSn Z) (errB B (-1)) b.2) ∨ (a.1 ≠ 0 ∧ MoI T G (errB B (a.2 3 2)) b.2))
theorem noteError_ok (v : Int) (M : Mem) : Ok (f_X9_noteError v M) (fun M' => ∀ b i, M' b i = if b = 0 ∧ i = 15 then (if v = 0 then -1 else M 3 2) else M b i) := by
  unfold f_X9_noteError
  refine .ifC (fun h => .put fun M1 e1 => .ret (fun b i => by rw [e1, if_pos h])) (fun h => .put fun M1 e1 => .ret (fun b i => by rw [e1, if_neg h]))
theorem clearText_ok (M : Mem) : Ok (f_X4_clearText 14 M) (fun M' => M' 14 2 = 0 ∧ M' 14 3 = 0 ∧ ∀ b i, ¬ (b = 14 ∧ (i = 2 ∨ i = 3)) → M' b i = M b i) := by
  unfold f_X4_clearText
  refine .put fun M1 e1 => .put fun M2 e2 => .ret ⟨by rw [e2, if_neg (by omega), e1, if_pos ⟨rfl, rfl⟩], by rw [e2, if_pos ⟨rfl, rfl⟩], fun b i h => by rw [e2, if_neg (by omega), e1, if_neg (by omega)]⟩
theorem setup_K {T : Tx} {G : Sn} {B : Bx} {E : Nat} {Mc Mm M1 : Mem} (h1 : MoI T G B M1) (oM : ∀ c i, ¬ PMz c i → ¬ (c = 84 ∧ (i = 0 ∨ i = 16)) → Mm c i = M1 c i) (h0 : Mm 84 0 = 0) (h16 : Mm 84 16 = 0) : KonP B.2.1 E Mc Mm (SetS T G B Mc M1) := by
  have pz : ∀ (c : Nat) (i : Int), ¬ (c = 84 ∧ ((7 ≤ i ∧ i ≤ 12) ∨ (17 ≤ i ∧ i ≤ 24) ∨ i = 40)) → ¬ (87 ≤ c ∧ c ≤ 89) → ¬ (105 ≤ c ∧ c ≤ 108) → ¬ PMz c i := fun c i a b d => by unfold PMz; omega
  refine ⟨fun p Z Ma Mb hZ hk zc zm fa fb => ?_, fun k Ma Mb k1 k4 m22 m23 fa fb => ?_⟩
  · refine Both.of (P := fun a => a = ((0 : Int), Ma)) (.ret rfl) (k162_ok Mb) (fun a b ha ⟨b1, b2, b3, b4, b5, b6, b7, b8, b9, b10, b11⟩ => ?_)
    subst ha
    have n := zm.2.2.2.1
    have fr : FrM M1 b.2 := fun c i hc => by rw [b11 c i (by omega) (by omega) (by omega) (by omega) (by omega), fb c i (pz c i (by omega) (by omega) (by omega)), oM c i (pz c i (by omega) (by omega) (by omega)) (by omega)]
    refine ⟨fa, fr, ?_, b1, Or.inl ⟨rfl, Z, hZ, hk, zc.2.2.1, zc.2.2.2, ?_⟩⟩
    · rw [b11 84 0 (by omega) (by omega) (by omega) (by omega) (by omega), fb 84 0 (pz 84 0 (by omega) (by omega) (by omega))]; exact h0
    · refine h1.anew (B' := errB B (-1)) ?_ b8 b9 b10 (msg_of hZ hk zm.2.2.1 b3 b4 b5 b6 b2) ⟨?_, fun j j0 j1 => by have j1 : j < 0 := j1; omega⟩ ?_ rfl (fun c i hc => ?_)
      · refine ⟨(b7 0 (by omega) (by omega)).trans n.2.2.2.2.2.2.2.1, (b7 1 (by omega) (by omega)).trans n.2.2.2.2.2.2.2.2, (b7 10 (by omega) (by omega)).trans n.2.2.2.1, (b7 11 (by omega) (by omega)).trans n.2.2.2.2.1, (b7 12 (by omega) (by omega)).trans n.2.2.2.2.2.1, (b7 13 (by omega) (by omega)).trans n.2.2.2.2.2.2.1, fun p p0 p1 => by have p1 : p < 0 := p1; omega, fun k k0 k1 => by have k1 : k < 0 := k1; omega⟩
      · show b.2 84 16 = 0
        rw [b11 84 16 (by omega) (by omega) (by omega) (by omega) (by omega), fb 84 16 (pz 84 16 (by omega) (by omega) (by omega))]; exact h16
      · show b.2 84 23 = -1
        rw [b11 84 23 (by omega) (by omega) (by omega) (by omega) (by omega)]; exact zm.2.2.2.2.2
      · rw [b11 c i (by omega) (by omega) (by omega) (by omega) (by omega), fb c i (pz c i (by omega) (by omega) (by omega)), oM c i (pz c i (by omega) (by omega) (by omega)) (by omega)]
  · refine ⟨fa, fun c i hc => ?_, ?_, rfl, Or.inr ⟨by show k ≠ 0; omega, h1.err (fun c i c0 c1 hz hx => ?_) ?_ m23⟩⟩
    · show Mb c i = M1 c i
      rw [fb c i (pz c i (by omega) (by omega) (by omega)), oM c i (pz c i (by omega) (by omega) (by omega)) (by omega)]
    · show Mb 84 0 = 0
      rw [fb 84 0 (pz 84 0 (by omega) (by omega) (by omega))]; exact h0
    · show Mb c i = M1 c i
      rw [fb c i hz, oM c i hz hx]
    · show Mb 84 16 = 0
      rw [fb 84 16 (pz 84 16 (by omega) (by omega) (by omega))]; exact h16
theorem law_1_ok {T : Tx} {G : Sn} {B : Bx} {M : Mem} (v1 : Int) (hW : WT T) (hG : WG G) (hB : WB B) (hC : CI T G B M) (hM : MoI T G B M) : Ok (f_law_1 v1 M) (fun M' => ∃ T' G' B', WT T' ∧ WG G' ∧ WB B' ∧ CI T' G' B' M' ∧ MoI T' G' B' M') := by
  have b600 := hB.2.1
  unfold f_law_1 f_L_setup
  by_cases hn : 0 ≤ v1 ∧ v1 ≤ B.1
  · refine lawB hM (fun M1 h1 => ?_) (fun v M1 => rfl)
    obtain ⟨E, rfl⟩ : ∃ E : Nat, v1 = E := ⟨v1.toNat, by omega⟩
    have hE : E ≤ 600 := by omega
    unfold f_X9_setup f_X10_setup
    refine .bl (.val (askInput_y hC.2.2.2.2.1 hn)) (fun z hz => ?_)
    subst hz
    refine .lT rfl (.bl (begin_ok (B := B) hE (fun j hj => hC.2.2.2.2.1.2 j (by omega) (by omega))) (fun Mc ⟨tc, fc⟩ => .pr fun M2 e2 => ?_))
    obtain ⟨a1, a2, a3⟩ := h1.put0 e2
    rw [show M2 84 16 = B.1 from a1.2.2.2.2.1.1]
    refine .br (.val (isIn_y M2 hn)) (fun z hz => .rF (by omega) (.br (.val (throws_no 1 a3)) (fun p hp => ?_)))
    subst hp
    have hBu : Bu B.2.1 E M2 := fun j hj => (a1.2.2.2.2.1.2 j (by omega) (by omega)).1
    refine .rT rfl (.br (beginsText_ok (B := B) hE hBu) (fun M3 ⟨tm, b22, b23, b16, ob⟩ => .pr fun M4 e4 => .pr fun M5 e5 => .pr fun M6 e6 => .pr fun M7 e7 => .br (empties_L (M0 := M7) 254 4096 0 M7 rfl (by omega) (by omega) (fun c c0 c1 => by omega) (fun _ _ _ => rfl)) (fun Mm ⟨y10, y11, y12, y13, y0, y1, ym⟩ => ?_)))
    have o7 : ∀ c i, ¬ (c = 84 ∧ (i = 7 ∨ i = 10 ∨ i = 11 ∨ i = 12)) → M7 c i = M3 c i := fun c i h => by rw [e7, if_neg (by omega), e6, if_neg (by omega), e5, if_neg (by omega), e4, if_neg (by omega)]
    have om : ∀ c i, c ≠ 89 → ¬ (c = 84 ∧ (i = 7 ∨ i = 10 ∨ i = 11 ∨ i = 12)) → Mm c i = M3 c i := fun c i h h' => (ym c i h).trans (o7 c i h')
    have m7 : Mm 84 7 = 0 := by rw [ym 84 7 (by omega), e7, if_neg (by omega), e6, if_neg (by omega), e5, if_neg (by omega), e4, if_pos ⟨rfl, rfl⟩]
    have m10 : Mm 84 10 = -1 := by rw [ym 84 10 (by omega), e7, if_neg (by omega), e6, if_neg (by omega), e5, if_pos ⟨rfl, rfl⟩]
    have m11 : Mm 84 11 = -1 := by rw [ym 84 11 (by omega), e7, if_neg (by omega), e6, if_pos ⟨rfl, rfl⟩]
    have m12 : Mm 84 12 = -1 := by rw [ym 84 12 (by omega), e7, if_pos ⟨rfl, rfl⟩]
    have tM : TM B.2.1 E 0 Mm := by
      unfold TM at tm ⊢
      rw [om 84 17 (by omega) (by omega), om 84 18 (by omega) (by omega), om 84 19 (by omega) (by omega), om 84 20 (by omega) (by omega), om 84 21 (by omega) (by omega)]
      exact tm
    have o91 : ∀ j, Mm 91 j = M2 91 j := fun j => by rw [om 91 j (by omega) (by omega), ob 91 j (by omega)]
    have hBt : Bt B.2.1 E Mm := ⟨bu_same hBu o91, fun j hj => by rw [o91]; exact (a1.2.2.2.2.1.2 j (by omega) (by omega)).2, fun j hj => hB.2.2.1 j (by omega) (by omega)⟩
    have oM : ∀ c i, ¬ PMz c i → ¬ (c = 84 ∧ (i = 0 ∨ i = 16)) → Mm c i = M1 c i := fun c i hz hx => by
      unfold PMz at hz
      rw [om c i (by omega) (by omega), ob c i (by omega)]
      exact (e2 c i).trans (if_neg (by omega))
    have h0 : Mm 84 0 = 0 := by rw [om 84 0 (by omega) (by omega), ob 84 0 (by omega)]; exact a3
    have h16 : Mm 84 16 = 0 := (om 84 16 (by omega) (by omega)).trans b16
    have K := setup_K (E := E) (Mc := Mc) h1 oM h0 h16
    have hR : RsM Z0 Mm := by
      refine ⟨m7, fun k hk => by have hk : (k : Int) < 0 := hk; omega, fun c hc => ?_⟩
      rw [m10, m11, m12]
      have hc1 : c ≠ -1 := by unfold isTxt at hc; omega
      refine ⟨?_, ?_, ?_, fun k hk => by have hk : (k : Int) < 0 := hk; omega⟩
      · show ((-1 : Int) = 8 ↔ c = -1); omega
      · show ((-1 : Int) = 9 ↔ c = -1); omega
      · show ((-1 : Int) = 10 ↔ c = -1); omega
    have hN : NsM Z0 Mm := ⟨⟨fun _ => m10, fun _ => rfl⟩, ⟨fun _ => m12, fun _ => rfl⟩, fun _ => m11, y10, y11, y12, y13, y0, y1⟩
    refine Both.lb (y := mRest Mm) (setup_run hE (fun j hj => (fc 2 j (by omega)).trans (hC.2.2.2.2.1.2 j (by omega) (by omega))) tc tM hBt hR hN ((om 84 22 (by omega) (by omega)).trans b22) ((om 84 23 (by omega) (by omega)).trans b23) K) (fun a b hS => ?_)
    obtain ⟨s1, s2, s3, s4, s5⟩ := hS
    have oa : ∀ c i, ¬ (3 ≤ c ∧ c ≤ 10) → a.2 c i = M c i := fun c i hc => (s1 c i hc).trans (fc c i (by omega))
    refine .ll (.bl (noteError_ok a.1 a.2) (fun Mn en => .pl fun Mo eo => ?_))
    rcases s5 with ⟨z0, Z, hZ, hk, rj, nj, mo⟩ | ⟨z0, mo⟩
    · refine .lT z0 (.bl (copySg_ok Mo) (fun Mk ⟨k1, k2, k3, k4⟩ => .bl (clearText_ok Mk) (fun Ml ⟨l1, l2, l3⟩ => .pl fun Mp ep => .bl (setPrices_ok 14 _ _ _ Mp) (fun Mq eq => .bl (startAnew_ok Mq) (fun Mr ⟨t1, t2, t3, t4, t5, t6⟩ => .ret ?_)))))
      have oo : ∀ c i, ¬ (c = 0 ∧ i = 15) → ¬ (c = 1 ∧ i = 1) → Mo c i = a.2 c i := fun c i x y => by rw [eo, if_neg y, en, if_neg x]
      have ol : ∀ c i, ¬ (c = 0 ∧ i = 15) → ¬ (c = 1 ∧ i = 1) → ¬ (11 ≤ c ∧ c ≤ 13) → c ≠ 14 → Ml c i = a.2 c i := fun c i x y z w => by rw [l3 c i (by omega), k4 c i z, oo c i x y]
      have op : ∀ c i, ¬ (c = 0 ∧ i = 15) → ¬ (c = 1 ∧ i = 1) → ¬ (11 ≤ c ∧ c ≤ 13) → c ≠ 14 → Mp c i = a.2 c i := fun c i x y z w => by rw [ep, if_neg (by omega), ol c i x y z w]
      have oq : ∀ c i, c ≠ 14 → Mq c i = Mp c i := fun c i x => by rw [eq, if_neg (by omega), if_neg (by omega), if_neg (by omega)]
      have orr : ∀ c i, c ≠ 53 → ¬ (c = 0 ∧ (i = 16 ∨ i = 17)) → ¬ (c = 20 ∧ i = 2) → Mr c i = Mq c i := fun c i x y z => t6 c i y z x
      have os : ∀ c i, ¬ (c = 0 ∧ 15 ≤ i ∧ i ≤ 17) → c ≠ 1 → ¬ (3 ≤ c ∧ c ≤ 14) → c ≠ 53 → ¬ (c = 20 ∧ i = 2) → Mr c i = M c i := fun c i x y z w v => by rw [orr c i w (by omega) v, oq c i (by omega), op c i (by omega) (by omega) (by omega) (by omega), oa c i (by omega)]
      have hW' : WT (newT T (sPg Z)) := newT_w (sPg_w hZ)
      obtain ⟨n5, n6, n1, n2, n3, n4⟩ := nj
      have c1 : CI (newT T (sPg Z)) (sSn Z) (errB B (-1)) Mr := by
        refine hC.anew hW (B' := errB B (-1)) ?_ t1 t2 t3 t4 t5 (csg_of hZ rj (fun c c0 c1 => ?_) (fun k k0 k1' => ?_) ?_) ⟨?_, fun j j0 j1 => by have j1 : j < 0 := j1; omega⟩ ?_ rfl (fun c i hc => os c i (by omega) (by omega) (by omega) (by omega) (by omega))
        · refine ⟨?_, ?_, ?_, ?_, ?_, ?_, fun p p0 p1 => by have p1 : p < 0 := p1; omega, fun k k0 k1 => by have k1 : k < 0 := k1; omega⟩
          · rw [orr 14 2 (by omega) (by omega) (by omega), eq, if_neg (by omega), if_neg (by omega), if_neg (by omega), ep, if_neg (by omega)]; exact l1
          · rw [orr 14 3 (by omega) (by omega) (by omega), eq, if_neg (by omega), if_neg (by omega), if_neg (by omega), ep, if_neg (by omega)]; exact l2
          · rw [orr 14 4 (by omega) (by omega) (by omega), eq, if_neg (by omega), if_neg (by omega), if_neg (by omega), ep, if_pos ⟨rfl, rfl⟩, ol 4 1 (by omega) (by omega) (by omega) (by omega)]; exact n1
          · rw [orr 14 5 (by omega) (by omega) (by omega), eq, if_neg (by omega), if_neg (by omega), if_pos ⟨rfl, rfl⟩, op 4 2 (by omega) (by omega) (by omega) (by omega)]; exact n2
          · rw [orr 14 6 (by omega) (by omega) (by omega), eq, if_neg (by omega), if_pos ⟨rfl, rfl⟩, op 4 3 (by omega) (by omega) (by omega) (by omega)]; exact n3
          · rw [orr 14 7 (by omega) (by omega) (by omega), eq, if_pos ⟨rfl, rfl⟩, op 4 4 (by omega) (by omega) (by omega) (by omega)]; exact n4
        · rw [orr 12 c (by omega) (by omega) (by omega), oq 12 c (by omega), ep, if_neg (by omega), l3 12 c (by omega), k1 c c0 c1, oo 6 c (by omega) (by omega)]
        · rw [orr 13 k (by omega) (by omega) (by omega), oq 13 k (by omega), ep, if_neg (by omega), l3 13 k (by omega), k2 k k0 k1', oo 7 k (by omega) (by omega)]
        · rw [orr 11 2 (by omega) (by omega) (by omega), oq 11 2 (by omega), ep, if_neg (by omega), l3 11 2 (by omega), k3, oo 5 2 (by omega) (by omega)]
        · show Mr 1 1 = 0
          rw [orr 1 1 (by omega) (by omega) (by omega), oq 1 1 (by omega), ep, if_neg (by omega), l3 1 1 (by omega), k4 1 1 (by omega), eo, if_pos ⟨rfl, rfl⟩]
        · show Mr 0 15 = -1
          rw [orr 0 15 (by omega) (by omega) (by omega), oq 0 15 (by omega), ep, if_neg (by omega), l3 0 15 (by omega), k4 0 15 (by omega), eo, if_neg (by omega), en, if_pos ⟨rfl, rfl⟩, if_pos z0]
      exact ⟨rfl, fun c i hc => os c i (by omega) (by omega) (by omega) (by omega) (by omega), s3, s4, s2, newT T (sPg Z), sSn Z, errB B (-1), hW', sSn_w hZ hk, errB_w hB _, c1, mo⟩
    · refine .lF z0 (.ret ?_)
      have oo : ∀ c i, ¬ (3 ≤ c ∧ c ≤ 10) → ¬ (c = 0 ∧ i = 15) → ¬ (c = 1 ∧ i = 1) → Mo c i = M c i := fun c i x y z => by rw [eo, if_neg z, en, if_neg y, oa c i x]
      refine ⟨rfl, fun c i hc => oo c i (by omega) (by omega) (by omega), s3, s4, s2, T, G, errB B (a.2 3 2), hW, hG, errB_w hB _, hC.err hW (fun c i _ x y z => oo c i x y z) ?_ ?_, mo⟩
      · show Mo 1 1 = 0
        rw [eo, if_pos ⟨rfl, rfl⟩]
      · show Mo 0 15 = a.2 3 2
        rw [eo, if_neg (by omega), en, if_pos ⟨rfl, rfl⟩, if_neg z0]
  · refine (lawW 2 1 0 hM ?_ hW (fun _ _ => rfl) (by decide) (fun M1 h1 => ?_)).mono (fun M' h => ⟨T, G, B, hW, hG, hB, h⟩)
    · unfold f_X9_setup
      refine .bind (.val (askInput_n hC.2.2.2.2.1 hn)) (fun z hz => ?_)
      subst hz
      exact .ifF (by show ¬ (2 : Nat) = 0; decide) (.ret ⟨rfl, fun h => absurd h (by decide), hC, FrC.rf⟩)
    · unfold f_X10_setup
      refine .put fun M2 e2 => ?_
      obtain ⟨a1, a2, a3⟩ := h1.put0 e2
      rw [show M2 84 16 = B.1 from a1.2.2.2.2.1.1]
      refine .bind (.val (isIn_n M2 hn)) (fun z hz => .ifT hz (.bind (throws_yes 1 (by decide) a3) (fun p ⟨p1, p2⟩ => .ifF (by omega) (.ret ?_))))
      obtain ⟨c1, c2, c3⟩ := a1.put0 p2
      exact ⟨c3, fun h => absurd h (by decide), c1, a2.trans c2⟩
