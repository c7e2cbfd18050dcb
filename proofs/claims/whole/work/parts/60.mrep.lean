/-! ===== the model lays a repair ===== -/
def YZ (b : Nat) (_ : Int) : Prop := 100 ≤ b ∧ b ≤ 103
/-- what the model does with the k-th bracket -/
def DG (ac : Int) (r c : Nat → Int) (M : Mem) (k : Nat) : Prop := M 100 k = daC ac r c k ∧ M 101 k = gtC r c k
theorem lr25 {R : Nat → Int} {N : Nat} (hN : N ≤ 240) (hR : RB7 R) {dr gv ch : Int} (c : Nat → Int) (v1 : Int) {Q : Int × Mem → Prop} : ∀ (d i j : Nat), j - i ≤ d → i ≤ j → j ≤ kk R N → ∀ (fuel n : Nat) (v2 : Int) (M : Mem), 2 * (j - i) + 1 < fuel → n + (j - i) ≤ 480 → v2 = (n : Int) + 1 → MG R N M → RT (ro R N) dr gv ch (kk R N) M 0 → M 102 n = i → M 103 n = j → (∀ k : Nat, i ≤ k → k < j → c k = pln (ro R N) (alp dr gv) ch d i j k) →
    (∀ (M' : Mem) (fuel' : Nat) (v : Int), fuel ≤ fuel' + (2 * (j - i) + 1) → v = n → (∀ k : Nat, i ≤ k → k < j → DG (act dr gv) (ro R N) c M' k) → (∀ k : Nat, k < i ∨ j ≤ k → M' 100 k = M 100 k ∧ M' 101 k = M 101 k) → (∀ k : Nat, k < n → M' 102 k = M 102 k ∧ M' 103 k = M 103 k) → (∀ b q, ¬ YZ b q → M' b q = M b q) → Ok (f_X10_laysRepair_L25 fuel' v1 v M') Q) →
    Ok (f_X10_laysRepair_L25 fuel v1 v2 M) Q := by
  have hk := (kk_is R N).2
  intro d
  induction d with
  | zero =>
    intro i j hd hij hj fuel n v2 M hf hn hv hG hT h102 h103 hcd K
    have : i = j := by omega
    subst this
    obtain ⟨fuel, rfl⟩ : ∃ f, fuel = f + 1 := ⟨fuel - 1, by omega⟩
    rw [f_X10_laysRepair_L25]
    refine .ifF (by omega) (.let fun x ex => ?_)
    rw [hv, w32_of (by omega) (by omega)] at ex
    have ex2 : x = (n : Int) := by omega
    subst ex2
    refine .ifT (by omega) (.let fun a ea => .let fun b eb => .ifT (by omega) ?_)
    exact K M fuel _ (by omega) rfl (fun k k0 k1 => by omega) (fun k _ => ⟨rfl, rfl⟩) (fun k _ => ⟨rfl, rfl⟩) (fun b q _ => rfl)
  | succ d ih =>
    intro i j hd hij hj fuel n v2 M hf hn hv hG hT h102 h103 hcd K
    obtain ⟨fuel, rfl⟩ : ∃ f, fuel = f + 1 := ⟨fuel - 1, by omega⟩
    rw [f_X10_laysRepair_L25]
    refine .ifF (by omega) (.let fun x ex => ?_)
    rw [hv, w32_of (by omega) (by omega)] at ex
    have ex2 : x = (n : Int) := by omega
    clear ex
    subst ex2
    refine .ifT (by omega) (.let fun a ea => .let fun b eb => ?_)
    rw [h102] at ea
    rw [h103] at eb
    subst ea; subst eb
    by_cases hlt : i < j
    · have gi := hG.2 i (by omega)
      have ri : ro R N i = -1 ∨ (0 ≤ ro R N i ∧ ro R N i ≤ 7) := hR _
      have hw := (hT i j (by omega) hij hj).2 hlt
      have ci := hcd i (Nat.le_refl _) hlt
      rw [pln_s _ _ _ hlt, if_pos rfl] at ci
      rw [w32_of (i := 241 * (i : Int)) (by omega) (by omega), w32_of (i := 241 * (i : Int) + (j : Int)) (by omega) (by omega), hw]
      refine .ifF (by omega) (.ifT (by omega) (.let fun w ew => ?_))
      rcases Cs_is (ro R N) (alp dr gv) ch hlt with ⟨hy, _⟩ | ⟨m, hy, m0, m1, m2, m3, _⟩
      · rw [if_pos hy] at ci
        unfold wyM at ew
        rw [if_pos hy] at ew
        have hda : daC (act dr gv) (ro R N) c i = act dr gv := by unfold daC; rw [if_pos ci]
        have hgt : gtC (ro R N) c i = ro R N i / 2 := by unfold gtC; rw [if_pos (by omega)]
        have go : ∀ (M1 M2 M3 M4 : Mem) (t : Int), (∀ b q, M1 b q = if b = 100 ∧ q = (i : Int) then act dr gv else M b q) → (∀ b q, M2 b q = if b = 101 ∧ q = (i : Int) then M1 94 i else M1 b q) → (∀ b q, M3 b q = if b = 102 ∧ q = (n : Int) then (i : Int) + 1 else M2 b q) → (∀ b q, M4 b q = if b = 103 ∧ q = (n : Int) then (j : Int) else M3 b q) → t = (n : Int) + 1 → Ok (f_X10_laysRepair_L25 fuel v1 t M4) Q := by
          intro M1 M2 M3 M4 t e1 e2 e3 e4 ht
          have oth : ∀ b q, ¬ YZ b q → M4 b q = M b q := fun b q h => by
            unfold YZ at h
            rw [e4, if_neg (by omega), e3, if_neg (by omega), e2, if_neg (by omega), e1, if_neg (by omega)]
          have g94 : M1 94 i = ro R N i / 2 := by rw [e1, if_neg (by omega)]; exact gi.2.1
          refine ih (i + 1) j (by omega) (by omega) hj fuel n t M4 (by omega) (by omega) ht (hG.same (fun c q h => oth c q (by unfold YZ; omega))) (hT.same (fun c q h => oth c q (by unfold YZ; omega))) (by rw [e4, if_neg (by omega), e3, if_pos ⟨rfl, rfl⟩]; omega) (by rw [e4, if_pos ⟨rfl, rfl⟩]) (fun k k0 k1 => ?_) (fun M' fuel' v hf' hv' hD h1 h2 fr => ?_)
          · have := hcd k (by omega) k1
            rw [pln_s _ _ _ hlt, if_neg (by omega), if_pos hy] at this
            exact this
          · refine K M' fuel' v (by omega) hv' (fun k k0 k1 => ?_) (fun k hk' => ?_) (fun k hk' => ?_) (fun b q h => (fr b q h).trans (oth b q h))
            · by_cases e : k = i
              · subst e
                have q := h1 k (Or.inl (by omega))
                refine ⟨?_, ?_⟩
                · rw [q.1, e4, if_neg (by omega), e3, if_neg (by omega), e2, if_neg (by omega), e1, if_pos ⟨rfl, rfl⟩, hda]
                · rw [q.2, e4, if_neg (by omega), e3, if_neg (by omega), e2, if_pos ⟨rfl, rfl⟩, g94, hgt]
              · exact hD k (by omega) k1
            · have q := h1 k (by omega)
              refine ⟨?_, ?_⟩
              · rw [q.1, e4, if_neg (by omega), e3, if_neg (by omega), e2, if_neg (by omega), e1, if_neg (by omega)]
              · rw [q.2, e4, if_neg (by omega), e3, if_neg (by omega), e2, if_neg (by omega), e1, if_neg (by omega)]
            · have q := h2 k hk'
              refine ⟨?_, ?_⟩
              · rw [q.1, e4, if_neg (by omega), e3, if_neg (by omega), e2, if_neg (by omega), e1, if_neg (by omega)]
              · rw [q.2, e4, if_neg (by omega), e3, if_neg (by omega), e2, if_neg (by omega), e1, if_neg (by omega)]
        by_cases hg : gv < dr
        · have ha : act dr gv = 1 := by unfold act; rw [if_pos hg]
          rw [if_pos hg] at ew
          rw [ha] at go
          refine .ifF (by omega) (.ifT (by omega) (.ifT (by omega) (.put fun M1 e1 => .put fun M2 e2 => .ifF (by omega) ?_)))
          rw [w32_of (i := (i : Int) + 1) (by omega) (by omega)]
          refine .put fun M3 e3 => .put fun M4 e4 => .let fun t et => .ifT (by omega) ?_
          rw [w32_of (by omega) (by omega)] at et
          exact go M1 M2 M3 M4 t e1 e2 e3 e4 et
        · have ha : act dr gv = 0 := by unfold act; rw [if_neg hg]
          rw [if_neg hg] at ew
          rw [ha] at go
          refine .ifT (by omega) (.ifT (by omega) (.put fun M1 e1 => .put fun M2 e2 => .ifF (by omega) ?_))
          rw [w32_of (i := (i : Int) + 1) (by omega) (by omega)]
          refine .put fun M3 e3 => .put fun M4 e4 => .let fun t et => .ifT (by omega) ?_
          rw [w32_of (by omega) (by omega)] at et
          exact go M1 M2 M3 M4 t e1 e2 e3 e4 et
      · rw [if_neg (by omega)] at ci
        unfold wyM at ew
        rw [if_neg (by omega)] at ew
        have hwm : w = (m : Int) := by omega
        subst hwm
        have hda : daC (act dr gv) (ro R N) c i = -1 := by unfold daC; rw [if_neg (by omega), if_pos ci]
        have hgt : gtC (ro R N) c i = ro R N i / 2 := by unfold gtC; rw [if_pos (by omega)]
        have mN : (Wy (ro R N) (alp dr gv) ch i j).toNat = m := by omega
        have gm := hG.2 m (by omega)
        have rm : ro R N m = -1 ∨ (0 ≤ ro R N m ∧ ro R N m ≤ 7) := hR _
        have cm := hcd m (by omega) m1
        rw [pln_s _ _ _ hlt, if_neg (by omega), if_neg (by omega), if_neg (by omega), if_pos (by omega)] at cm
        have gtm : gtC (ro R N) c m = ro R N i / 2 := by unfold gtC; rw [if_neg (by omega), cm]; omega
        refine .ifF (by omega) (.ifF (by omega) (.ifT (by omega) (.put fun M1 e1 => .put fun M2 e2 => .ifT (by omega) ?_)))
        rw [w32_of (i := (m : Int) + 1) (by omega) (by omega)]
        refine .put fun M3 e3 => .put fun M4 e4 => .let fun t et => .ifF (by omega) (.ifT (by omega) ?_)
        rw [w32_of (by omega) (by omega)] at et
        subst et
        have o94 : ∀ q, M4 94 q = M 94 q := fun q => by rw [e4, if_neg (by omega), e3, if_neg (by omega), e2, if_neg (by omega), e1, if_neg (by omega)]
        have g94 : M1 94 i = ro R N i / 2 := by rw [e1, if_neg (by omega)]; exact gi.2.1
        have go : ∀ (M5 M6 M7 M8 : Mem) (t y : Int), y = daC (act dr gv) (ro R N) c m → (∀ b q, M5 b q = if b = 100 ∧ q = (m : Int) then y else M4 b q) → (∀ b q, M6 b q = if b = 101 ∧ q = (m : Int) then M5 94 i else M5 b q) → (∀ b q, M7 b q = if b = 102 ∧ q = (n : Int) + 1 then (i : Int) + 1 else M6 b q) → (∀ b q, M8 b q = if b = 103 ∧ q = (n : Int) + 1 then (m : Int) else M7 b q) → t = ((n + 1 : Nat) : Int) + 1 → Ok (f_X10_laysRepair_L25 fuel v1 t M8) Q := by
          intro M5 M6 M7 M8 t y hy2 e5 e6 e7 e8 ht
          have oth : ∀ b q, ¬ YZ b q → M8 b q = M b q := fun b q h => by
            unfold YZ at h
            rw [e8, if_neg (by omega), e7, if_neg (by omega), e6, if_neg (by omega), e5, if_neg (by omega), e4, if_neg (by omega), e3, if_neg (by omega), e2, if_neg (by omega), e1, if_neg (by omega)]
          have f94 : M5 94 i = ro R N i / 2 := by rw [e5, if_neg (by omega), o94]; exact gi.2.1
          have hG8 : MG R N M8 := hG.same (fun c q h => oth c q (by unfold YZ; omega))
          have hT8 : RT (ro R N) dr gv ch (kk R N) M8 0 := hT.same (fun c q h => oth c q (by unfold YZ; omega))
          have D8i : M8 100 i = -1 ∧ M8 101 i = ro R N i / 2 := ⟨by rw [e8, if_neg (by omega), e7, if_neg (by omega), e6, if_neg (by omega), e5, if_neg (by omega), e4, if_neg (by omega), e3, if_neg (by omega), e2, if_neg (by omega), e1, if_pos ⟨rfl, rfl⟩], by rw [e8, if_neg (by omega), e7, if_neg (by omega), e6, if_neg (by omega), e5, if_neg (by omega), e4, if_neg (by omega), e3, if_neg (by omega), e2, if_pos ⟨rfl, rfl⟩, g94]⟩
          have D8m : M8 100 m = y ∧ M8 101 m = ro R N i / 2 := ⟨by rw [e8, if_neg (by omega), e7, if_neg (by omega), e6, if_neg (by omega), e5, if_pos ⟨rfl, rfl⟩], by rw [e8, if_neg (by omega), e7, if_neg (by omega), e6, if_pos ⟨rfl, rfl⟩, f94]⟩
          have D8o : ∀ k : Nat, k ≠ i → k ≠ m → M8 100 k = M 100 k ∧ M8 101 k = M 101 k := fun k k0 k1 => ⟨by rw [e8, if_neg (by omega), e7, if_neg (by omega), e6, if_neg (by omega), e5, if_neg (by omega), e4, if_neg (by omega), e3, if_neg (by omega), e2, if_neg (by omega), e1, if_neg (by omega)], by rw [e8, if_neg (by omega), e7, if_neg (by omega), e6, if_neg (by omega), e5, if_neg (by omega), e4, if_neg (by omega), e3, if_neg (by omega), e2, if_neg (by omega), e1, if_neg (by omega)]⟩
          have S8 : M8 102 n = (m : Int) + 1 ∧ M8 103 n = j := ⟨by rw [e8, if_neg (by omega), e7, if_neg (by omega), e6, if_neg (by omega), e5, if_neg (by omega), e4, if_neg (by omega), e3, if_pos ⟨rfl, rfl⟩], by rw [e8, if_neg (by omega), e7, if_neg (by omega), e6, if_neg (by omega), e5, if_neg (by omega), e4, if_pos ⟨rfl, rfl⟩]⟩
          have S8o : ∀ k : Nat, k < n → M8 102 k = M 102 k ∧ M8 103 k = M 103 k := fun k k0 => ⟨by rw [e8, if_neg (by omega), e7, if_neg (by omega), e6, if_neg (by omega), e5, if_neg (by omega), e4, if_neg (by omega), e3, if_neg (by omega), e2, if_neg (by omega), e1, if_neg (by omega)], by rw [e8, if_neg (by omega), e7, if_neg (by omega), e6, if_neg (by omega), e5, if_neg (by omega), e4, if_neg (by omega), e3, if_neg (by omega), e2, if_neg (by omega), e1, if_neg (by omega)]⟩
          refine ih (i + 1) m (by omega) (by omega) (by omega) fuel (n + 1) t M8 (by omega) (by omega) ht hG8 hT8 (by rw [e8, if_neg (by omega), e7, if_pos ⟨rfl, by omega⟩]; omega) (by rw [e8, if_pos ⟨rfl, by omega⟩]) (fun k k0 k1 => ?_) (fun M9 fuel9 v9 hf9 hv9 hD9 q1 q2 fr9 => ?_)
          · have := hcd k (by omega) (by omega)
            rw [pln_s _ _ _ hlt, if_neg (by omega), if_neg (by omega), if_pos (by omega), mN] at this
            exact this
          · have s9 := q2 n (by omega)
            refine ih (m + 1) j (by omega) (by omega) hj fuel9 n v9 M9 (by omega) (by omega) (by omega) (hG8.same (fun c q h => fr9 c q (by unfold YZ; omega))) (hT8.same (fun c q h => fr9 c q (by unfold YZ; omega))) (by rw [s9.1, S8.1]; omega) (by rw [s9.2]; exact S8.2) (fun k k0 k1 => ?_) (fun M' fuel' v hf' hv' hD' p1 p2 fr => ?_)
            · have := hcd k (by omega) k1
              rw [pln_s _ _ _ hlt, if_neg (by omega), if_neg (by omega), if_neg (by omega), if_neg (by omega), mN] at this
              exact this
            · refine K M' fuel' v (by omega) hv' (fun k k0 k1 => ?_) (fun k hk' => ?_) (fun k hk' => ?_) (fun b q h => (fr b q h).trans ((fr9 b q h).trans (oth b q h)))
              · by_cases hkm : m < k
                · exact hD' k (by omega) k1
                · have a := p1 k (Or.inl (by omega))
                  unfold DG
                  rw [a.1, a.2]
                  by_cases e : k = i
                  · subst e
                    have b := q1 k (Or.inl (by omega))
                    rw [b.1, b.2, D8i.1, D8i.2, hda, hgt]
                    exact ⟨rfl, rfl⟩
                  · by_cases e2 : k = m
                    · subst e2
                      have b := q1 k (Or.inr (Nat.le_refl _))
                      rw [b.1, b.2, D8m.1, D8m.2, gtm]
                      exact ⟨hy2, rfl⟩
                    · exact hD9 k (by omega) (by omega)
              · have a := p1 k (by omega)
                have b := q1 k (by omega)
                have z := D8o k (by omega) (by omega)
                exact ⟨by rw [a.1, b.1, z.1], by rw [a.2, b.2, z.2]⟩
              · have a := p2 k hk'
                have b := q2 k (by omega)
                have z := S8o k hk'
                exact ⟨by rw [a.1, b.1, z.1], by rw [a.2, b.2, z.2]⟩
        rw [o94 m, o94 i, gm.2.1, gi.2.1]
        refine .ifC (fun hs => .put fun M5 e5 => .put fun M6 e6 => .ifT (by omega) ?_) (fun hs => .put fun M5 e5 => .put fun M6 e6 => .ifT (by omega) ?_)
        · rw [w32_of (i := (i : Int) + 1) (by omega) (by omega)]
          refine .put fun M7 e7 => .put fun M8 e8 => .let fun t et => ?_
          rw [w32_of (by omega) (by omega)] at et
          exact go M5 M6 M7 M8 t (-1) (by unfold daC; rw [if_neg (by omega), if_neg (by omega), if_pos (by omega)]) e5 e6 e7 e8 (by omega)
        · rw [w32_of (i := (i : Int) + 1) (by omega) (by omega)]
          refine .put fun M7 e7 => .put fun M8 e8 => .let fun t et => ?_
          rw [w32_of (by omega) (by omega)] at et
          exact go M5 M6 M7 M8 t 2 (by unfold daC; rw [if_neg (by omega), if_neg (by omega), if_neg (by omega)]) e5 e6 e7 e8 (by omega)
    · have : i = j := by omega
      subst this
      refine .ifT rfl ?_
      exact K M fuel _ (by omega) rfl (fun k k0 k1 => by omega) (fun k _ => ⟨rfl, rfl⟩) (fun k _ => ⟨rfl, rfl⟩) (fun b q _ => rfl)
/-- the spec of a repair, of a text -/
def Rr (ρ : Int → Int) (P : Pg) : Nat → Int := ro (Rof ρ P) (Nn P)
def Kk (ρ : Int → Int) (P : Pg) : Nat := kk (Rof ρ P) (Nn P)
def Al (P : Pg) : Int := alp P.drop P.give
def Cd (ρ : Int → Int) (P : Pg) (k : Nat) : Int := cd (Rr ρ P) (Al P) P.chg (Kk ρ P) k
def Tot (ρ : Int → Int) (P : Pg) : Int := Cs (Rr ρ P) (Al P) P.chg 0 (Kk ρ P)
def Da (ρ : Int → Int) (P : Pg) (k : Nat) : Int := daC (act P.drop P.give) (Rr ρ P) (Cd ρ P) k
def Gt (ρ : Int → Int) (P : Pg) (k : Nat) : Int := gtC (Rr ρ P) (Cd ρ P) k
def LRZ (c : Nat) (i : Int) : Prop := FZ c i ∨ (98 ≤ c ∧ c ≤ 103)
theorem laysRepair_ok {ρ : Int → Int} {P : Pg} (hW : Wf P) (hρ : ∀ c, ρ c = -1 ∨ (0 ≤ ρ c ∧ ρ c ≤ 10)) (h10 : ρ 10 = -1) (M : Mem) (hP : PgM M 90 0 P) (hS : SgM ρ M) :
    Ok (f_X10_laysRepair M) (fun p => p.1 = Tot ρ P ∧ MA (Rof ρ P) (Nn P) p.2 ∧ (∀ k : Nat, k < Kk ρ P → p.2 100 k = Da ρ P k ∧ p.2 101 k = Gt ρ P k) ∧ ∀ c i, ¬ LRZ c i → p.2 c i = M c i) := by
  have hN := Nn_is hW
  have hR : RB7 (Rof ρ P) := rl_bd hρ P.b (-1)
  have hk := (kk_is (Rof ρ P) (Nn P))
  unfold f_X10_laysRepair
  refine .bind (mcostOf_ok (-1) hW hρ h10 M hP hS) (fun p ⟨h1, hA, hT, fr⟩ => .let fun v ev => .put fun M1 e1 => ?_)
  have a26 : M1 84 26 = kk (Rof ρ P) (Nn P) := by rw [e1, if_neg (by omega)]; exact hA.mg.1
  rw [a26]
  refine .put fun M2 e2 => ?_
  have oth : ∀ b q, ¬ YZ b q → M2 b q = p.2 b q := fun b q h => by
    unfold YZ at h
    rw [e2, if_neg (by omega), e1, if_neg (by omega)]
  have hA2 : MA (Rof ρ P) (Nn P) M2 := hA.same (fun c q h => oth c q (by unfold YZ; omega))
  refine lr25 hN.2 hR (dr := P.drop) (gv := P.give) (ch := P.chg) (Cd ρ P) v (Kk ρ P) 0 (Kk ρ P) (by omega) (by omega) (Nat.le_refl _) 4096 0 1 M2 (by show 2 * (kk (Rof ρ P) (Nn P) - 0) + 1 < 4096; omega) (by show 0 + (kk (Rof ρ P) (Nn P) - 0) ≤ 480; omega) rfl hA2.mg (RT.same hT (fun c q h => oth c q (by unfold YZ; omega))) (by rw [e2, if_neg (by omega), e1, if_pos ⟨rfl, rfl⟩]; rfl) (by rw [e2, if_pos ⟨rfl, rfl⟩]; rfl) (fun k _ _ => rfl) (fun M' fuel' v' hf' hv' hD q1 q2 fr' => ?_)
  have hf2 : 4096 ≤ fuel' + (2 * (kk (Rof ρ P) (Nn P) - 0) + 1) := hf'
  obtain ⟨fuel', rfl⟩ : ∃ f, fuel' = f + 1 := ⟨fuel' - 1, by omega⟩
  rw [f_X10_laysRepair_L25]
  refine .ifT (by omega) (.ret ⟨?_, hA2.same (fun c q h => fr' c q (by unfold YZ; omega)), fun k hk' => hD k (by omega) hk', fun c i h => ?_⟩)
  · rw [ev]; exact h1
  · unfold LRZ at h
    have n1 : ¬ YZ c i := by unfold YZ; omega
    show M' c i = M c i
    rw [fr' c i n1, oth c i n1, fr c i (fun e => h (e.elim Or.inl (fun x => Or.inr (by unfold LZ at x; omega))))]
