/-! ===== the state: what the class holds, what the model holds ===== -/
/-- text, how many changes can be undone, the pages ahead of them, which slots are filled, what lies there -/
abbrev Tx : Type := Pg × Int × (Int → Pg) × (Nat → Int) × (Nat → Pg)
/-- roles of signs, how many kinds, their signs -/
abbrev Sn : Type := (Int → Int) × Int × (Nat → Int)
/-- the input's length and bytes, the place of the latest error, the report's length and bytes -/
abbrev Bx : Type := Int × (Int → Int) × Int × Int × (Int → Int)
/-- the class's mending says what text and prices say -/
def MdV (ρ : Int → Int) (P : Pg) (M : Mem) : Prop := M 66 12 = Tot ρ P ∧ ST (act P.drop P.give) (Rr ρ P) (Cd ρ P) (fun k => plc (Rof ρ P) (Nn P) k) (Kk ρ P) M ∧ M 66 13 = Al P ∧ M 66 15 = P.chg
theorem MdV.same {ρ : Int → Int} {P : Pg} {M M' : Mem} (h : MdV ρ P M) (e : ∀ c i, (c = 66 ∧ (i = 11 ∨ i = 12 ∨ i = 13 ∨ i = 15)) ∨ (74 ≤ c ∧ c ≤ 76) → M' c i = M c i) : MdV ρ P M' :=
  ⟨(e 66 12 (by omega)).trans h.1, h.2.1.same (fun b q hb => e b q (by omega)), (e 66 13 (by omega)).trans h.2.2.1, (e 66 15 (by omega)).trans h.2.2.2⟩
def CSl (fl : Nat → Int) (Sl : Nat → Pg) (M : Mem) : Prop := ∀ s : Nat, s < 2 → M 53 s = fl s ∧ (fl s = 1 → PgC M (78 + 3 * s) (Sl s))
def CSg (G : Sn) (M : Mem) : Prop := RoT G.1 M ∧ M 11 2 = G.2.1 ∧ ∀ k : Nat, (k : Int) < 2 * G.2.1 → M 13 k = G.2.2 k
def CIn (L : Int) (inp : Int → Int) (M : Mem) : Prop := M 1 1 = L ∧ ∀ j, 0 ≤ j → j < L → M 2 j = inp j
def CRp (rn : Int) (rp : Int → Int) (M : Mem) : Prop := M 0 14 = rn ∧ ∀ k, 0 ≤ k → k < rn → M 77 k = rp k
def CCa (ρ : Int → Int) (P : Pg) (M : Mem) : Prop := (M 0 16 = 0 → RV ρ P M) ∧ (M 0 17 = 0 → MdV ρ P M)
def CI (T : Tx) (G : Sn) (B : Bx) (M : Mem) : Prop := PgC M 14 T.1 ∧ HistC M T.2.1 T.2.2.1 ∧ CSl T.2.2.2.1 T.2.2.2.2 M ∧ CSg G M ∧ CIn B.1 B.2.1 M ∧ M 0 15 = B.2.2.1 ∧ CRp B.2.2.2.1 B.2.2.2.2 M ∧ CCa G.1 T.1 M
def MSl (fl : Nat → Int) (Sl : Nat → Pg) (M : Mem) : Prop := ∀ s : Nat, s < 2 → M 112 s = fl s ∧ (fl s = 1 → PgM M 111 (254 * (s : Int)) (Sl s))
def MSg (G : Sn) (M : Mem) : Prop := SgM G.1 M ∧ M 84 1 = G.2.1 ∧ ∀ k : Nat, (k : Int) < G.2.1 → M 85 k = G.2.2 (2 * k) ∧ M 86 k = G.2.2 (2 * k + 1)
def MIn (L : Int) (inp : Int → Int) (M : Mem) : Prop := M 84 16 = L ∧ ∀ j, 0 ≤ j → j < L → M 91 j % 256 = inp j ∧ -128 ≤ M 91 j ∧ M 91 j < 128
def MRp (rn : Int) (rp : Int → Int) (M : Mem) : Prop := M 84 39 = rn ∧ ∀ k, 0 ≤ k → k < rn → M 104 k = rp k
def MoI (T : Tx) (G : Sn) (B : Bx) (M : Mem) : Prop := PgM M 90 0 T.1 ∧ HistM M T.2.1 T.2.2.1 ∧ MSl T.2.2.2.1 T.2.2.2.2 M ∧ MSg G M ∧ MIn B.1 B.2.1 M ∧ M 84 23 = B.2.2.1 ∧ MRp B.2.2.2.1 B.2.2.2.2 M
def WT (T : Tx) : Prop := Wf T.1 ∧ HistW T.2.1 T.2.2.1 ∧ ∀ s : Nat, s < 2 → (T.2.2.2.1 s = 0 ∨ T.2.2.2.1 s = 1) ∧ (T.2.2.2.1 s = 1 → Wf (T.2.2.2.2 s))
def WG (G : Sn) : Prop := (∀ c, G.1 c = -1 ∨ (0 ≤ G.1 c ∧ G.1 c < 2 * G.2.1) ∨ (8 ≤ G.1 c ∧ G.1 c ≤ 10)) ∧ G.1 10 = -1 ∧ 1 ≤ G.2.1 ∧ G.2.1 ≤ 4 ∧ ∀ k : Nat, (k : Int) < 2 * G.2.1 → isTxt (G.2.2 k)
def WB (B : Bx) : Prop := 0 ≤ B.1 ∧ B.1 ≤ 600 ∧ (∀ j, 0 ≤ j → j < B.1 → 0 ≤ B.2.1 j ∧ B.2.1 j < 256) ∧ 0 ≤ B.2.2.2.1 ∧ B.2.2.2.1 ≤ 240
def FrC (M M' : Mem) : Prop := ∀ (c : Nat) (i : Int), 84 ≤ c → M' c i = M c i
def FrM (M M' : Mem) : Prop := ∀ (c : Nat) (i : Int), c < 84 ∨ 113 ≤ c → M' c i = M c i
theorem FrC.trans {M M1 M2 : Mem} (h1 : FrC M M1) (h2 : FrC M1 M2) : FrC M M2 := fun c i h => (h2 c i h).trans (h1 c i h)
theorem FrM.trans {M M1 M2 : Mem} (h1 : FrM M M1) (h2 : FrM M1 M2) : FrM M M2 := fun c i h => (h2 c i h).trans (h1 c i h)
theorem FrC.rf {M : Mem} : FrC M M := fun _ _ _ => rfl
theorem FrM.rf {M : Mem} : FrM M M := fun _ _ _ => rfl
theorem WG.r10 {G : Sn} (h : WG G) : ∀ c, G.1 c = -1 ∨ (0 ≤ G.1 c ∧ G.1 c ≤ 10) := fun c => by have := h.1 c; have := h.2.2.2.1; omega
theorem HistC.same {M M' : Mem} {n : Int} {Hs : Int → Pg} (h : HistC M n Hs) (hn : n ≤ 10) (e : ∀ c i, c = 20 ∨ (22 ≤ c ∧ c ≤ 51) → M' c i = M c i) : HistC M' n Hs := by
  obtain ⟨h1, h2, h3, h4⟩ := h
  refine ⟨by rw [e 20 2 (by omega)]; exact h1, by rw [e 20 1 (by omega)]; exact h2, by rw [e 20 1 (by omega)]; exact h3, fun k k0 k1 => ?_⟩
  rw [e 20 1 (by omega)]
  have r : (rix (M 20 1) n k).toNat < 10 := by unfold rix; split <;> omega
  exact (h4 k k0 k1).same (fun i => e _ i (by omega)) (fun i => e _ i (by omega)) (fun i => e _ i (by omega))
theorem HistM.same {M M' : Mem} {n : Int} {Hs : Int → Pg} (h : HistM M n Hs) (e : ∀ c i, (c = 84 ∧ i = 46) ∨ c = 110 → M' c i = M c i) : HistM M' n Hs :=
  ⟨by rw [e 84 46 (by omega)]; exact h.1, fun k k0 k1 => (h.2 k k0 k1).same (fun i => e 110 i (by omega))⟩
theorem CSl.same {fl : Nat → Int} {Sl : Nat → Pg} {M M' : Mem} (h : CSl fl Sl M) (e : ∀ c i, c = 53 ∨ (78 ≤ c ∧ c ≤ 83) → M' c i = M c i) : CSl fl Sl M' := fun s hs => by
  refine ⟨by rw [e 53 _ (by omega)]; exact (h s hs).1, fun hf => ((h s hs).2 hf).same (fun i => e _ i (by omega)) (fun i => e _ i (by omega)) (fun i => e _ i (by omega))⟩
theorem RoT.same {ρ : Int → Int} {M M' : Mem} (h : RoT ρ M) (e : ∀ i, M' 12 i = M 12 i) : RoT ρ M' := ⟨fun c => by rw [e]; exact h.1 c, h.2⟩
theorem CSg.same {G : Sn} {M M' : Mem} (h : CSg G M) (e : ∀ c i, c = 11 ∨ c = 12 ∨ c = 13 → M' c i = M c i) : CSg G M' :=
  ⟨h.1.same (fun i => e 12 i (by omega)), (e 11 2 (by omega)).trans h.2.1, fun k hk => (e 13 k (by omega)).trans (h.2.2 k hk)⟩
theorem CIn.same {L : Int} {inp : Int → Int} {M M' : Mem} (h : CIn L inp M) (e : ∀ c i, c = 1 ∨ c = 2 → M' c i = M c i) : CIn L inp M' :=
  ⟨(e 1 1 (by omega)).trans h.1, fun j j0 j1 => (e 2 j (by omega)).trans (h.2 j j0 j1)⟩
theorem CRp.same {rn : Int} {rp : Int → Int} {M M' : Mem} (h : CRp rn rp M) (e : ∀ c i, (c = 0 ∧ i = 14) ∨ c = 77 → M' c i = M c i) : CRp rn rp M' :=
  ⟨(e 0 14 (by omega)).trans h.1, fun j j0 j1 => (e 77 j (by omega)).trans (h.2 j j0 j1)⟩
/-- what reading and mending alone touch -/
def QC (c : Nat) (i : Int) : Prop := (54 ≤ c ∧ c ≤ 76) ∨ (c = 0 ∧ (i = 16 ∨ i = 17))
theorem CI.q {T : Tx} {G : Sn} {B : Bx} {M M' : Mem} (hW : WT T) (h : CI T G B M) (e : ∀ c i, c < 84 → ¬ QC c i → M' c i = M c i) (hc : CCa G.1 T.1 M') : CI T G B M' := by
  obtain ⟨h1, h2, h3, h4, h5, h6, h7, h8⟩ := h
  refine ⟨h1.same (fun i => e _ i (by omega) (by unfold QC; omega)) (fun i => e _ i (by omega) (by unfold QC; omega)) (fun i => e _ i (by omega) (by unfold QC; omega)), h2.same hW.2.1.2.1 (fun c i hc => e c i (by omega) (by unfold QC; omega)), h3.same (fun c i hc => e c i (by omega) (by unfold QC; omega)), h4.same (fun c i hc => e c i (by omega) (by unfold QC; omega)), h5.same (fun c i hc => e c i (by omega) (by unfold QC; omega)), (e 0 15 (by omega) (by unfold QC; omega)).trans h6, h7.same (fun c i hc => e c i (by omega) (by unfold QC; omega)), hc⟩
theorem CI.same {T : Tx} {G : Sn} {B : Bx} {M M' : Mem} (hW : WT T) (h : CI T G B M) (e : ∀ c i, c < 84 → M' c i = M c i) : CI T G B M' := by
  refine h.q hW (fun c i hc _ => e c i hc) ⟨fun h0 => ?_, fun h0 => ?_⟩
  · exact (h.2.2.2.2.2.2.2.1 (by rw [← e 0 16 (by omega)]; exact h0)).same (fun c i _ _ => e c i (by omega))
  · exact (h.2.2.2.2.2.2.2.2 (by rw [← e 0 17 (by omega)]; exact h0)).same (fun c i _ => e c i (by omega))
theorem MSl.same {fl : Nat → Int} {Sl : Nat → Pg} {M M' : Mem} (h : MSl fl Sl M) (e : ∀ c i, c = 111 ∨ c = 112 → M' c i = M c i) : MSl fl Sl M' := fun s hs =>
  ⟨by rw [e 112 _ (by omega)]; exact (h s hs).1, fun hf => ((h s hs).2 hf).same (fun i => e 111 i (by omega))⟩
theorem MSg.same {G : Sn} {M M' : Mem} (h : MSg G M) (e : ∀ c i, (c = 84 ∧ (i = 1 ∨ i = 4 ∨ i = 5 ∨ i = 6)) ∨ c = 85 ∨ c = 86 → M' c i = M c i) : MSg G M' :=
  ⟨SgM.same h.1 e, (e 84 1 (by omega)).trans h.2.1, fun k hk => by rw [e 85 _ (by omega), e 86 _ (by omega)]; exact h.2.2 k hk⟩
theorem MIn.same {L : Int} {inp : Int → Int} {M M' : Mem} (h : MIn L inp M) (e : ∀ c i, (c = 84 ∧ i = 16) ∨ c = 91 → M' c i = M c i) : MIn L inp M' :=
  ⟨(e 84 16 (by omega)).trans h.1, fun j j0 j1 => by rw [e 91 j (by omega)]; exact h.2 j j0 j1⟩
theorem MRp.same {rn : Int} {rp : Int → Int} {M M' : Mem} (h : MRp rn rp M) (e : ∀ c i, (c = 84 ∧ i = 39) ∨ c = 104 → M' c i = M c i) : MRp rn rp M' :=
  ⟨(e 84 39 (by omega)).trans h.1, fun j j0 j1 => (e 104 j (by omega)).trans (h.2 j j0 j1)⟩
/-- what the model's questions alone touch -/
def QM (c : Nat) (i : Int) : Prop := (c = 84 ∧ (i = 0 ∨ i = 26)) ∨ (92 ≤ c ∧ c ≤ 103)
theorem MoI.q {T : Tx} {G : Sn} {B : Bx} {M M' : Mem} (h : MoI T G B M) (e : ∀ c i, 84 ≤ c → c < 113 → ¬ QM c i → M' c i = M c i) : MoI T G B M' := by
  obtain ⟨h1, h2, h3, h4, h5, h6, h7⟩ := h
  exact ⟨h1.same (fun i => e 90 i (by omega) (by omega) (by unfold QM; omega)), h2.same (fun c i hc => e c i (by omega) (by omega) (by unfold QM; omega)), h3.same (fun c i hc => e c i (by omega) (by omega) (by unfold QM; omega)), h4.same (fun c i hc => e c i (by omega) (by omega) (by unfold QM; omega)), h5.same (fun c i hc => e c i (by omega) (by omega) (by unfold QM; omega)), (e 84 23 (by omega) (by omega) (by unfold QM; omega)).trans h6, h7.same (fun c i hc => e c i (by omega) (by omega) (by unfold QM; omega))⟩
theorem MoI.same {T : Tx} {G : Sn} {B : Bx} {M M' : Mem} (h : MoI T G B M) (e : ∀ c i, 84 ≤ c → c < 113 → M' c i = M c i) : MoI T G B M' := h.q (fun c i h0 h1 _ => e c i h0 h1)
def Inv (M : Mem) : Prop := ∃ (T : Tx) (G : Sn) (B : Bx), WT T ∧ WG G ∧ WB B ∧ CI T G B M ∧ MoI T G B M
/-- the class reads, if it must -/
theorem c_readNow {T : Tx} {G : Sn} {B : Bx} {M : Mem} (hW : WT T) (h : CI T G B M) : Ok (f_X9_readNow M) (fun M' => RV G.1 T.1 M' ∧ M' 0 16 = 0 ∧ CI T G B M' ∧ FrC M M' ∧ ∀ c i, ¬ RZ c i → M' c i = M c i) := by
  refine (readNow_ok hW.1 M h.1 h.2.2.2.1.1 h.2.2.2.2.2.2.2.1).mono (fun M' ⟨a, b, c⟩ => ⟨a, b, ?_, fun c' i hc => c c' i (by unfold RZ; omega), c⟩)
  refine h.q hW (fun c' i hc hq => c c' i (by unfold QC at hq; unfold RZ; omega)) ⟨fun _ => a, fun h0 => ?_⟩
  rw [c 0 17 (by unfold RZ; omega)] at h0
  exact (h.2.2.2.2.2.2.2.2 h0).same (fun c' i hc => c c' i (by unfold RZ; omega))
/-- reading twice is reading once -/
theorem readNow_twice {M : Mem} (h : M 0 16 = 0) : f_X9_readNow M = some M := by
  unfold f_X9_readNow
  rw [if_pos h]
/-- the class mends, if it must -/
theorem c_mendNow {T : Tx} {G : Sn} {B : Bx} {M : Mem} (hW : WT T) (hG : WG G) (h : CI T G B M) : Ok (f_X9_mendNow M) (fun M' => MdV G.1 T.1 M' ∧ M' 0 17 = 0 ∧ CI T G B M' ∧ FrC M M') := by
  have hN := Nn_is hW.1
  have hR : RB7 (Rof G.1 T.1) := rl_bd hG.r10 T.1.b (-1)
  obtain ⟨w1, w2, w3, w4, w5, w6, w7, w8⟩ := hW.1.2.1
  have pd : M 14 5 = T.1.drop := h.1.2.2.2.1
  have pg : M 14 6 = T.1.give := h.1.2.2.2.2.1
  have pc : M 14 7 = T.1.chg := h.1.2.2.2.2.2.1
  have al := alp_bd (dr := T.1.drop) (gv := T.1.give) (by omega)
  unfold f_X9_mendNow
  refine .ifC (fun h0 => .ret ⟨h.2.2.2.2.2.2.2.2 h0, h0, h, FrC.rf⟩) (fun h0 => ?_)
  refine .bind (Q := fun M1 => M1 66 13 = Al T.1 ∧ M1 66 14 = act T.1.drop T.1.give ∧ M1 66 15 = T.1.chg ∧ ∀ c i, ¬ (c = 66 ∧ (i = 13 ∨ i = 14 ∨ i = 15)) → M1 c i = M c i) ?_ (fun M1 ⟨a1, a2, a3, a4⟩ => ?_)
  · unfold f_X2_setPrices
    have go : ∀ (M1 : Mem) (x : Int), x = act T.1.drop T.1.give → (∀ b i, M1 b i = if b = 66 ∧ i = 14 then x else M b i) → Ok (lt1 (if (M1 14 6) < (M1 14 5) then M1 14 6 else M1 14 5) fun x29 => lt1 (up M1 66 13 x29) fun M32 => lt1 (up M32 66 15 (M32 14 7)) fun M40 => some M40) (fun M1 => M1 66 13 = Al T.1 ∧ M1 66 14 = act T.1.drop T.1.give ∧ M1 66 15 = T.1.chg ∧ ∀ c i, ¬ (c = 66 ∧ (i = 13 ∨ i = 14 ∨ i = 15)) → M1 c i = M c i) := by
      intro M1 x hx e1
      have b5 : M1 14 5 = T.1.drop := by rw [e1, if_neg (by omega)]; exact pd
      have b6 : M1 14 6 = T.1.give := by rw [e1, if_neg (by omega)]; exact pg
      rw [b5, b6]
      refine .let fun y ey => .put fun M2 e2 => ?_
      have b7 : M2 14 7 = T.1.chg := by rw [e2, if_neg (by omega), e1, if_neg (by omega)]; exact pc
      rw [b7]
      refine .put fun M3 e3 => .ret ⟨?_, ?_, ?_, fun c i hc => ?_⟩
      · rw [e3, if_neg (by omega), e2, if_pos ⟨rfl, rfl⟩, ey]; rfl
      · rw [e3, if_neg (by omega), e2, if_neg (by omega), e1, if_pos ⟨rfl, rfl⟩, hx]
      · rw [e3, if_pos ⟨rfl, rfl⟩]
      · rw [e3, if_neg (by omega), e2, if_neg (by omega), e1, if_neg (by omega)]
    refine .ifC (fun hg => .put fun M1 e1 => go M1 1 ?_ e1) (fun hg => .put fun M1 e1 => go M1 0 ?_ e1)
    · rw [pd, pg] at hg; unfold act; rw [if_pos hg]
    · rw [pd, pg] at hg; unfold act; rw [if_neg hg]
  · have f17 : M1 0 17 ≠ 0 := by rw [a4 0 17 (by omega)]; exact h0
    have h1 : CI T G B M1 := h.q hW (fun c i hc hq => a4 c i (by unfold QC at hq; omega)) ⟨fun h2 => (h.2.2.2.2.2.2.2.1 (by rw [← a4 0 16 (by omega)]; exact h2)).same (fun c i _ _ => a4 c i (by omega)), fun h2 => absurd h2 f17⟩
    refine .bind (c_readNow hW h1) (fun M2 ⟨r1, r2, r3, r4, r5⟩ => ?_)
    refine .bind (ccostOf_ok hN.2 hR (al := Al T.1) (ch := T.1.chg) al (by omega) 54 (Or.inl rfl) M2 r1.1 (fun p hp => (r1.2.2.2.2.2 p hp).2.1) (by rw [r5 66 13 (by unfold RZ; omega)]; exact a1) (by rw [r5 66 15 (by unfold RZ; omega)]; exact a3)) (fun p ⟨c1, c2, c3, c4⟩ => .put fun M3 e3 => ?_)
    have q1 : ∀ b q, ¬ CZ b q → ¬ (b = 66 ∧ q = 12) → M3 b q = M2 b q := fun b q hb hb2 => by rw [e3, if_neg hb2]; exact c4 b q hb
    have hH : CH (Rof G.1 T.1) (Nn T.1) (Al T.1) T.1.chg (act T.1.drop T.1.give) M3 := by
      refine ⟨⟨by rw [e3, if_neg (by omega)]; exact c2.1, fun k hk => by rw [e3, if_neg (by omega), e3, if_neg (by omega), e3, if_neg (by omega)]; exact c2.2 k hk⟩, ?_, ?_, ?_, fun j hj he k k0 k1 => by rw [e3, if_neg (by omega)]; exact c3 j hj he k k0 k1⟩
      · rw [q1 66 13 (by unfold CZ MZ; omega) (by omega), r5 66 13 (by unfold RZ; omega)]; exact a1
      · rw [q1 66 15 (by unfold CZ MZ; omega) (by omega), r5 66 15 (by unfold RZ; omega)]; exact a3
      · rw [q1 66 14 (by unfold CZ MZ; omega) (by omega), r5 66 14 (by unfold RZ; omega)]; exact a2
    refine .bind (chooseSteps_ok hN.2 hR al (by omega) (by unfold act; split <;> omega) M3 hH) (fun M4 ⟨s1, s2⟩ => .put fun M5 e5 => .ret ?_)
    have q5 : ∀ b q, ¬ (b = 0 ∧ q = 17) → ¬ SZ b q → M5 b q = M3 b q := fun b q hb hb2 => by rw [e5, if_neg hb]; exact s2 b q hb2
    have hMV : MdV G.1 T.1 M5 := by
      refine ⟨?_, s1.same (fun b q hb => by rw [e5, if_neg (by omega)]), ?_, ?_⟩
      · rw [q5 66 12 (by omega) (by unfold SZ; omega), e3, if_pos ⟨rfl, rfl⟩]; exact c1
      · rw [q5 66 13 (by omega) (by unfold SZ; omega)]; exact hH.2.1
      · rw [q5 66 15 (by omega) (by unfold SZ; omega)]; exact hH.2.2.1
    have q2 : ∀ b q, ¬ QC b q → M5 b q = M2 b q := fun b q hb => by
      unfold QC at hb
      rw [q5 b q (by omega) (by unfold SZ; omega), q1 b q (by unfold CZ MZ; omega) (by omega)]
    have q3 : ∀ b q, 54 ≤ b → b ≤ 58 → M5 b q = M2 b q := fun b q hb hb2 => by
      rw [q5 b q (by omega) (by unfold SZ; omega), q1 b q (by unfold CZ MZ; omega) (by omega)]
    refine ⟨hMV, by rw [e5, if_pos ⟨rfl, rfl⟩], r3.q hW (fun c i _ hq => q2 c i hq) ⟨fun _ => r1.same (fun c i g0 g1 => q3 c i g0 g1), fun _ => hMV⟩, fun c i hc => ?_⟩
    rw [q2 c i (by unfold QC; omega), r4 c i hc, a4 c i (by omega)]
theorem mendNow_twice {M : Mem} (h : M 0 17 = 0) : f_X9_mendNow M = some M := by
  unfold f_X9_mendNow
  rw [if_pos h]
