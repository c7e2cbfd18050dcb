/-! ===== a script: the law ===== -/
def KonS {γ : Type} (kc : Int × Mem → Option γ) (Mc0 Mm0 : Mem) (R : γ → Int × Mem → Prop) : Prop := (∀ (n : Nat) (Ma Mb : Mem), n ≤ 100 → QR n Ma Mb → Ma 8 2 = n → Mb 84 40 = n → Mb 84 23 = -1 → FrPc Mc0 Ma → FrPm Mm0 Mb → Both (kc (0, Ma)) (f_X10_script_K63 1 Mb) R) ∧ ∀ (k : Int) (Ma Mb : Mem), 1 ≤ k → k ≤ 4 → Mb 84 23 = Ma 3 2 → FrPc Mc0 Ma → FrPm Mm0 Mb → Both (kc (k, Ma)) (some (w32 (-10 - k), Mb)) R
theorem L9_dead {n : Nat} {v w : Int} {M : Mem} (h : v ≠ 0) : f_X3_parse_L9 (n + 1) v w M = some (v, M) := by
  rw [f_X3_parse_L9]
  by_cases g : 100 ≤ w
  · rw [if_pos g]
  · rw [if_neg g, if_neg h]
theorem L44_dead (n : Nat) (M : Mem) : f_X10_script_L44 (n + 1) 0 M = some (w32 (-10 - M 84 22), M) := by
  rw [f_X10_script_L44, if_pos rfl]
  unfold f_X10_script_K63
  rw [if_pos rfl]
theorem cmds_L {γ : Type} {kc : Int × Mem → Option γ} {u : Int → Int} {E : Nat} {Mc0 Mm0 : Mem} {R : γ → Int × Mem → Prop} (hE : E ≤ 600) (K : KonS kc Mc0 Mm0 R) : ∀ (r fc fm n p : Nat) (Ma Mb : Mem), E - p < r → r < fc → r < fm → 6 * n ≤ p → p ≤ E → ScC u E p Ma → ScM u E p Mb → QR n Ma Mb → Ma 8 2 = n → Mb 84 40 = n → FrPc Mc0 Ma → FrPm Mm0 Mb → Both ((f_X3_parse_L9 fc 0 n Ma).bind kc) (f_X10_script_L44 fm 1 Mb) R := by
  intro r
  induction r with
  | zero => intro fc fm n p Ma Mb h; omega
  | succ r ih =>
    intro fc fm n p Ma Mb hr hfc hfm hn hp hC hM hq h8 h40 fa fb
    obtain ⟨fc, rfl⟩ : ∃ f, fc = f + 1 := ⟨fc - 1, by omega⟩
    obtain ⟨fm, rfl⟩ : ∃ f, fm = f + 1 := ⟨fm - 1, by omega⟩
    have n1 : ¬ (1 : Int) = 0 := by decide
    have s := ts_is u hp
    have k0 := tk_0 u hp
    have km : tkm u E p = 0 ↔ tk u E p = 0 := by unfold tkm; split <;> (try split) <;> omega
    have fin := K.1 n Ma Mb (by omega) hq h8 h40 hM.2.2.2 fa fb
    rw [f_X3_parse_L9, f_X10_script_L44, hM.1.2.2.2.1, if_neg n1]
    by_cases h100 : (100 : Int) ≤ n
    · rw [if_pos h100, obs, if_pos (km.mpr (k0.mpr (by omega)))]
      exact fin
    · rw [if_neg h100, if_pos rfl]
      unfold f_X8_isEnd
      rw [hC.1.2.2.2]
      by_cases h0 : tk u E p = 0
      · rw [if_pos h0, obs, if_neg n1, obs, if_pos (km.mpr h0)]
        exact fin
      · rw [if_neg h0, obs, if_pos rfl, if_neg (fun x => h0 (km.mp x))]
        obtain ⟨a, b, ea, eb, hab⟩ := p_cmd hE hp (by omega) hC hM h40 hq
        rw [ea, eb, obs, obs, lts, lts, lts, lts, w32_of (i := (n : Int) + 1) (by omega) (by omega)]
        rcases hab with ⟨g1, g2, ⟨p', g3, g4, g5, g6⟩, g7, g8, g9, g10, g11⟩ | hb
        · rw [g1, g2]
          have e8 : a.2 8 2 = n := g9.trans h8
          rw [e8, w32_of (i := (n : Int) + 1) (by omega) (by omega)]
          have o : ∀ c i, c ≠ 8 → (up a.2 8 2 ((n : Int) + 1)) c i = a.2 c i := fun c i h => if_neg (by omega)
          refine ih fc fm (n + 1) p' _ b.2 (by omega) (by omega) (by omega) (by omega) g4 ⟨?_, fun j hj => (o 2 j (by omega)).trans (g5.2 j hj)⟩ g6 (fun i hi => ?_) (if_pos ⟨rfl, rfl⟩) g8 (fa.trans (g10.trans (fun c i hc => o c i (by omega)))) (fb.trans g11)
          · obtain ⟨t, _⟩ := g5
            unfold TC at t ⊢
            rw [o 3 1 (by omega), o 3 2 (by omega), o 3 3 (by omega), o 3 4 (by omega)]
            exact t
          · rw [o 9 i (by omega)]
            obtain ⟨q1, q2, q3, q4⟩ := g7 i hi
            exact ⟨q1, q2, q3, fun j hj => by rw [o 10 _ (by omega)]; exact q4 j hj⟩
        · obtain ⟨x1, x2, x3, x4, x5, x6, x7⟩ := hb
          obtain ⟨fc, rfl⟩ : ∃ f, fc = f + 1 := ⟨fc - 1, by omega⟩
          obtain ⟨fm, rfl⟩ : ∃ f, fm = f + 1 := ⟨fm - 1, by omega⟩
          rw [L9_dead (by omega), obs, x3, L44_dead, x4]
          exact K.2 a.1 _ b.2 x1 x2 (x5.trans (if_neg (by omega)).symm) (fa.trans (x6.trans (fun c i hc => if_neg (by omega)))) (fb.trans x7)
/-- the row aside is no part of what stands -/
theorem MoI.aside {T : Tx} {G : Sn} {B : Bx} {M M' : Mem} (h : MoI T G B M) (e : ∀ c i, c ≠ 109 → M' c i = M c i) : MoI T G B M' := by
  obtain ⟨h1, h2, h3, h4, h5, h6, h7⟩ := h
  exact ⟨h1.same (fun i => e 90 i (by omega)), h2.same (fun c i hc => e c i (by omega)), h3.same (fun c i hc => e c i (by omega)), h4.same (fun c i hc => e c i (by omega)), h5.same (fun c i hc => e c i (by omega)), (e 84 23 (by omega)).trans h6, h7.same (fun c i hc => e c i (by omega))⟩
theorem law_31_ok {T : Tx} {G : Sn} {B : Bx} {M : Mem} (v1 : Int) (hW : WT T) (hG : WG G) (hB : WB B) (hC : CI T G B M) (hM : MoI T G B M) : Ok (f_law_31 v1 M) (fun M' => ∃ T' G' B', WT T' ∧ WG G' ∧ WB B' ∧ CI T' G' B' M' ∧ MoI T' G' B' M') := by
  have b600 := hB.2.1
  unfold f_law_31 f_L_script
  by_cases hn : 0 ≤ v1 ∧ v1 ≤ B.1
  · refine lawB hM (fun M1 h1 => ?_) (fun v M1 => rfl)
    obtain ⟨E, rfl⟩ : ∃ E : Nat, v1 = E := ⟨v1.toNat, by omega⟩
    have hE : E ≤ 600 := by omega
    unfold f_X9_script f_X10_script
    refine .bl (.val (askInput_y hC.2.2.2.2.1 hn)) (fun z hz => ?_)
    subst hz
    refine .lT rfl (.bl (begin_ok (B := B) hE (fun j hj => hC.2.2.2.2.1.2 j (by omega) (by omega))) (fun Mc ⟨tc, fc⟩ => .pr fun M2 e2 => ?_))
    obtain ⟨a1, a2, a3⟩ := h1.put0 e2
    rw [show M2 84 16 = B.1 from a1.2.2.2.2.1.1]
    refine .br (.val (isIn_y M2 hn)) (fun z hz => .rF (by omega) (.br (.val (throws_no 1 a3)) (fun p hp => ?_)))
    subst hp
    have hBu : Bu B.2.1 E M2 := fun j hj => (a1.2.2.2.2.1.2 j (by omega) (by omega)).1
    refine .rT rfl (.br (beginsText_ok (B := B) hE hBu) (fun M3 ⟨tm, b22, b23, b16, ob⟩ => .pr fun Mm e4 => ?_))
    have ob : ∀ c i, ¬ (c = 84 ∧ 16 ≤ i ∧ i ≤ 23) → M3 c i = M2 c i := ob
    have om : ∀ c i, ¬ (c = 84 ∧ i = 40) → Mm c i = M3 c i := fun c i h => by rw [e4, if_neg h]
    have o91 : ∀ j, Mm 91 j = M2 91 j := fun j => by rw [om 91 j (by omega), ob 91 j (by omega)]
    have hBt : Bt B.2.1 E Mm := ⟨bu_same hBu o91, fun j hj => by rw [o91]; exact (a1.2.2.2.2.1.2 j (by omega) (by omega)).2, fun j hj => hB.2.2.1 j (by omega) (by omega)⟩
    have tM : TM B.2.1 E 0 Mm := by
      unfold TM at tm ⊢
      rw [om 84 17 (by omega), om 84 18 (by omega), om 84 19 (by omega), om 84 20 (by omega), om 84 21 (by omega)]
      exact tm
    have oM : ∀ c i, ¬ PMz c i → ¬ (c = 84 ∧ (i = 0 ∨ i = 16)) → Mm c i = M2 c i := fun c i hz hx => by
      unfold PMz at hz
      rw [om c i (by omega), ob c i (by omega)]
    have m0 : Mm 84 0 = 0 := by rw [om 84 0 (by omega), ob 84 0 (by omega)]; exact a3
    have m16 : Mm 84 16 = 0 := (om 84 16 (by omega)).trans b16
    have pz : ∀ (c : Nat) (i : Int), ¬ (c = 84 ∧ ((7 ≤ i ∧ i ≤ 12) ∨ (17 ≤ i ∧ i ≤ 24) ∨ i = 40)) → ¬ (87 ≤ c ∧ c ≤ 89) → ¬ (105 ≤ c ∧ c ≤ 108) → ¬ PMz c i := fun c i a b d => by unfold PMz; omega
    have K : KonS (fun p21 : Int × Mem => lt1 (p21.1) fun v2_24 => (f_X9_noteError v2_24 p21.2).bind fun p27 => lt1 (up p27 1 1 0) fun M35 => if v2_24 = 0 then (f_X4_copyFrom 17 14 M35).bind fun p55 => f_X9_script_L60 4096 0 p55 else some (0, w32 ((-10) - v2_24), M35)) Mc Mm (fun r q => r.1 = 0 ∧ FrC M r.2.2 ∧ q.2 84 0 = 0 ∧ q.1 = r.2.1 ∧ FrM M1 q.2 ∧ ∃ T' G' B', WT T' ∧ WG G' ∧ WB B' ∧ CI T' G' B' r.2.2 ∧ MoI T' G' B' q.2) := by
      refine ⟨fun n Ma Mb n100 hq h8 h40 h23 fa fb => ?_, fun k Ma Mb k1 k4 h23 fa fb => ?_⟩
      · have oa : ∀ c i, ¬ (3 ≤ c ∧ c ≤ 10) → Ma c i = M c i := fun c i hc => (fa c i hc).trans (fc c i (by omega))
        refine .ll (.bl (noteError_ok 0 Ma) (fun Mn en => .pl fun Mo eo => .lT rfl ?_))
        have oo : ∀ c i, ¬ (c = 0 ∧ i = 15) → ¬ (c = 1 ∧ i = 1) → Mo c i = Ma c i := fun c i x y => by rw [eo, if_neg y, en, if_neg x]
        have cI : CI T G (errB B (-1)) Mo := hC.err hW (fun c i _ x y z => by rw [oo c i y z, oa c i x]) (by rw [eo, if_pos ⟨rfl, rfl⟩]) (by rw [eo, if_neg (by omega), en, if_pos ⟨rfl, rfl⟩, if_pos rfl])
        have b16' : Mb 84 16 = 0 := (fb 84 16 (pz 84 16 (by omega) (by omega) (by omega))).trans m16
        have b0' : Mb 84 0 = 0 := (fb 84 0 (pz 84 0 (by omega) (by omega) (by omega))).trans m0
        have mI : MoI T G (errB B (-1)) Mb := a1.err (fun c i _ _ hz hx => by rw [fb c i hz, oM c i hz hx]) b16' h23
        have frb : FrM M2 Mb := fun c i hc => by rw [fb c i (pz c i (by omega) (by omega) (by omega)), oM c i (pz c i (by omega) (by omega) (by omega)) (by omega)]
        refine .bl (copyFrom_ok (o := 17) (o1 := 14) (by omega) (by omega) (by omega) (by omega) Mo cI.1 hW.1) (fun Mp ⟨d1, d2⟩ => ?_)
        have cI2 : CI T G (errB B (-1)) Mp := cI.bef hW (fun c i _ c1 c2 c3 => d2 c c1 c2 c3 i)
        unfold f_X10_script_K63
        refine .rF (by decide) (.br (copies_ok 90 109 0 0 (by omega) (by omega) (by decide) (by decide) (by omega) (by omega) (by omega) Mb) (fun Mq g => ?_))
        have g2 : ∀ c i, c ≠ 109 → Mq c i = Mb c i := fun c i hc => by rw [g, if_neg (by omega)]
        have mI2 : MoI T G (errB B (-1)) Mq := mI.aside g2
        have g1 : PgM Mq 109 0 T.1 := mI.1.copied hW.1 (fun i h0 h1 => by rw [g, if_pos ⟨rfl, h0, h1⟩])
        have hw : OW (fun i => Ma 9 i) (fun i j => Ma 10 ((3 * i + j : Nat) : Int)) n := ⟨n100, fun i hi => ⟨(hq i hi).1, (hq i hi).2.1, fun j hj => ⟨((hq i hi).2.2.2 j hj).1, ((hq i hi).2.2.2 j hj).2.1⟩⟩⟩
        have pO : ∀ c i, ¬ (17 ≤ c ∧ c ≤ 19) → ¬ (c = 0 ∧ i = 15) → ¬ (c = 1 ∧ i = 1) → Mp c i = Ma c i := fun c i x y z => by rw [d2 c (by omega) (by omega) (by omega) i, oo c i y z]
        have hO : OQ (fun i => Ma 9 i) (fun i j => Ma 10 ((3 * i + j : Nat) : Int)) n Mp := ⟨(pO 8 2 (by omega) (by omega) (by omega)).trans h8, fun i hi => ⟨pO 9 i (by omega) (by omega) (by omega), fun j hj => pO 10 _ (by omega) (by omega) (by omega)⟩⟩
        have hQ : OM (fun i => Ma 9 i) (fun i j => Ma 10 ((3 * i + j : Nat) : Int)) n Mq := by
          refine ⟨(g2 84 40 (by omega)).trans h40, fun i hi => ⟨(g2 105 i (by omega)).trans (hq i hi).2.2.1, fun j hj => ?_⟩⟩
          have nl := nm_le (Ma 9 i)
          have hj : j < nm (Ma 9 i) := hj
          rw [g2 (106 + j) i (by omega)]
          exact ((hq i hi).2.2.2 j hj).2.2
        refine (exec_L (T := T) (Mc0 := M) (Mm0 := M2) (P0 := T.1) hW hW.1 hG hw n 4096 4096 0 T.1 Mp Mq (by omega) (by omega) (by omega) (by omega) hW.1 cI2 mI2 hO hQ d1 g1 (fun c i hc => by rw [pO c i (by omega) (by omega) (by omega), oa c i (by omega)]) (frb.trans (fun c i hc => g2 c i (by omega))) (by rw [g2 84 0 (by omega), b0', a3])).mono (fun r q hx => ?_)
        obtain ⟨x1, x2, x3, x4, x5, T', x6, x7, x8⟩ := hx
        exact ⟨x1, x3, x5.trans a3, x2, a2.trans x4, T', G, errB B (-1), x6, hG, errB_w hB _, x7, x8⟩
      · have oa : ∀ c i, ¬ (3 ≤ c ∧ c ≤ 10) → Ma c i = M c i := fun c i hc => (fa c i hc).trans (fc c i (by omega))
        have k0 : ¬ k = 0 := by omega
        refine .ll (.bl (noteError_ok k Ma) (fun Mn en => .pl fun Mo eo => .lF k0 (.ret ?_)))
        have oo : ∀ c i, ¬ (3 ≤ c ∧ c ≤ 10) → ¬ (c = 0 ∧ i = 15) → ¬ (c = 1 ∧ i = 1) → Mo c i = M c i := fun c i x y z => by rw [eo, if_neg z, en, if_neg y, oa c i x]
        refine ⟨rfl, fun c i hc => oo c i (by omega) (by omega) (by omega), (fb 84 0 (pz 84 0 (by omega) (by omega) (by omega))).trans m0, rfl, fun c i hc => ?_, T, G, errB B (Ma 3 2), hW, hG, errB_w hB _, hC.err hW (fun c i _ x y z => oo c i x y z) ?_ ?_, a1.err (fun c i _ _ hz hx => ?_) ((fb 84 16 (pz 84 16 (by omega) (by omega) (by omega))).trans m16) h23⟩
        · show Mb c i = M1 c i
          rw [fb c i (pz c i (by omega) (by omega) (by omega)), oM c i (pz c i (by omega) (by omega) (by omega)) (by omega)]
          exact a2 c i hc
        · show Mo 1 1 = 0
          rw [eo, if_pos ⟨rfl, rfl⟩]
        · show Mo 0 15 = Ma 3 2
          rw [eo, if_neg (by omega), en, if_pos ⟨rfl, rfl⟩, if_neg k0]
        · show Mb c i = M2 c i
          rw [fb c i hz, oM c i hz hx]
    unfold f_X3_parse
    show Both ((f_X3_parse_L9 4096 0 0 (up Mc 8 2 0)).bind _) _ _
    have o8 : ∀ c i, c ≠ 8 → (up Mc 8 2 0) c i = Mc c i := fun c i h => if_neg (by omega)
    refine cmds_L (u := B.2.1) hE K 602 4096 4096 0 0 (up Mc 8 2 0) Mm (by omega) (by omega) (by omega) (by omega) (by omega) ⟨?_, fun j hj => ?_⟩ ⟨tM, hBt, (om 84 22 (by omega)).trans b22, (om 84 23 (by omega)).trans b23⟩ (fun i hi => by omega) (if_pos ⟨rfl, rfl⟩) (by rw [e4, if_pos ⟨rfl, rfl⟩]; rfl) (fun c i hc => o8 c i (by omega)) FrPm.rf
    · unfold TC at tc ⊢
      rw [o8 3 1 (by omega), o8 3 2 (by omega), o8 3 3 (by omega), o8 3 4 (by omega)]
      exact tc
    · rw [o8 2 j (by omega), fc 2 j (by omega)]
      exact hC.2.2.2.2.1.2 j (by omega) (by omega)
  · refine (lawW 2 1 0 hM ?_ hW (fun _ _ => rfl) (by decide) (fun M1 h1 => ?_)).mono (fun M' h => ⟨T, G, B, hW, hG, hB, h⟩)
    · unfold f_X9_script
      refine .bind (.val (askInput_n hC.2.2.2.2.1 hn)) (fun z hz => ?_)
      subst hz
      exact .ifF (by show ¬ (2 : Nat) = 0; decide) (.ret ⟨rfl, fun h => absurd h (by decide), hC, FrC.rf⟩)
    · unfold f_X10_script
      refine .put fun M2 e2 => ?_
      obtain ⟨a1, a2, a3⟩ := h1.put0 e2
      rw [show M2 84 16 = B.1 from a1.2.2.2.2.1.1]
      refine .bind (.val (isIn_n M2 hn)) (fun z hz => .ifT hz (.bind (throws_yes 1 (by decide) a3) (fun p ⟨p1, p2⟩ => .ifF (by omega) (.ret ?_))))
      obtain ⟨c1, c2, c3⟩ := a1.put0 p2
      exact ⟨c3, fun h => absurd h (by decide), c1, a2.trans c2⟩
