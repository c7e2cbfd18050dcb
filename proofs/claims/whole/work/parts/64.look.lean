/-! ===== look ===== -/
theorem depthOf_at {ρ : Int → Int} {P : Pg} {M : Mem} (hN : Nn P ≤ 240) (h : RV ρ P M) {p : Nat} (hp : p < Nn P) : f_X5_depthOf 54 p M = some (ar (Pt ρ P) (Nn P) p) := by
  unfold f_X5_depthOf
  rw [h.1, if_neg (by omega), if_neg (by omega), if_pos (by omega)]
  exact congrArg some (h.2.2.2.2.2 p hp).2.2.2
theorem hiddenAs_at {ρ : Int → Int} {P : Pg} {M : Mem} (hN : Nn P ≤ 240) (h : RV ρ P M) {p : Nat} (hp : p < Nn P) : f_X5_hiddenAs 54 p M = some (hd ρ P.b (-1) p) := by
  unfold f_X5_hiddenAs
  rw [h.1, if_neg (by omega), if_neg (by omega), if_pos (by omega)]
  exact congrArg some (h.2.2.2.2.2 p hp).1
theorem askByte_y {P : Pg} {M : Mem} (hP : PgC M 14 P) {v : Int} (h : 0 ≤ v ∧ v < P.len) : f_X9_askByte v M = some (0, 0, M) := by
  unfold f_X9_askByte
  rw [hasByte_ok, if_pos (by rw [hP.1]; exact h)]
  rfl
theorem askByte_n {P : Pg} {M : Mem} (hP : PgC M 14 P) {v : Int} (h : ¬ (0 ≤ v ∧ v < P.len)) : f_X9_askByte v M = some (1, 0, M) := by
  unfold f_X9_askByte
  rw [hasByte_ok, if_neg (by rw [hP.1]; exact h)]
  rfl
def lookA (T : Tx) (G : Sn) (p : Nat) (v : Int) : Int := if v = 0 then T.1.b p else if v = 1 then (if Rof G.1 T.1 p = -1 then -1 else Rof G.1 T.1 p / 2) else if v = 2 then (if Rof G.1 T.1 p = -1 then -1 else 1 - Rof G.1 T.1 p % 2) else if v = 3 then Pt G.1 T.1 p else if v = 4 then ar (Pt G.1 T.1) (Nn T.1) p else if v = 5 then (if Pt G.1 T.1 p = -1 then -1 else ar (Pt G.1 T.1) (Nn T.1) p % T.1.col) else if v = 6 then hd G.1 T.1.b (-1) p else if v = 7 then lnc T.1.b p else clm T.1.b p
theorem colourOf_at {T : Tx} {G : Sn} {B : Bx} {M : Mem} (hW : WT T) (h : CI T G B M) {p : Nat} (hp : p < Nn T.1) : Ok (f_X9_colourOf p M) (fun r => r.1 = lookA T G p 5 ∧ RV G.1 T.1 r.2 ∧ r.2 0 16 = 0 ∧ CI T G B r.2 ∧ FrC M r.2) := by
  have hN := Nn_is hW.1
  have c1 := hW.1.2.1.1
  have c9 := hW.1.2.1.2.1
  unfold f_X9_colourOf
  refine .bind (c_readNow hW h) (fun M1 ⟨r1, r2, r3, r4, r5⟩ => .bind (.val (partnerOf_at hN.2 r1.cp hp)) (fun q hq => ?_))
  have e : lookA T G p 5 = if Pt G.1 T.1 p = -1 then -1 else ar (Pt G.1 T.1) (Nn T.1) p % T.1.col := rfl
  have ec : M1 14 4 = T.1.col := r3.1.2.2.1
  rw [e]
  subst hq
  by_cases hq : Pt G.1 T.1 p = -1
  · rw [if_pos hq, if_pos hq]
    exact .ret ⟨rfl, r1, r2, r3, r4⟩
  · have b := ar_bd (Pt G.1 T.1) (Nn T.1) p
    rw [if_neg hq, if_neg hq]
    refine .ifT (by omega) (.bind (.val (readNow_twice r2)) (fun M2 hM2 => ?_))
    subst hM2
    refine .bind (.val (depthOf_at hN.2 r1 hp)) (fun d hd => .ifF (by omega) (.ret ⟨?_, r1, r2, r3, r4⟩))
    rw [hd, ec]
    exact irm_pos b.1 (by omega) (by omega) (by omega)
theorem c_look {T : Tx} {G : Sn} {B : Bx} {M : Mem} (hW : WT T) (hG : WG G) (h : CI T G B M) {p : Nat} (hp : p < Nn T.1) {v : Int} (hv : 0 ≤ v ∧ v ≤ 8) : Ok (f_X9_look p v M) (fun r => r.1 = 0 ∧ (0 = 0 → r.2.1 = lookA T G p v) ∧ CI T G B r.2.2 ∧ FrC M r.2.2) := by
  have hN := Nn_is hW.1
  have rp := hR_of hG T.1 p
  unfold f_X9_look
  refine .bind (.val (askByte_y h.1 (v := (p : Int)) (by omega))) (fun z hz => ?_)
  subst hz
  refine .ifT rfl ?_
  have hv2 : v = 0 ∨ v = 1 ∨ v = 2 ∨ v = 3 ∨ v = 4 ∨ v = 5 ∨ v = 6 ∨ v = 7 ∨ v = 8 := by omega
  rcases hv2 with rfl | rfl | rfl | rfl | rfl | rfl | rfl | rfl | rfl
  · refine .ifT rfl (.bind (.val (pbyteAt_ok 14 p M (by rw [h.1.1]; omega))) (fun q hq => .ret ⟨rfl, fun _ => ?_, h, FrC.rf⟩))
    rw [if_pos (by rw [h.1.1]; omega)] at hq
    exact hq.trans (h.1.2.2.2.2.2.2.1 p (by omega) (by omega))
  · refine .ifF (by decide) (.ifT rfl (.bind (c_readNow hW h) (fun M1 ⟨r1, r2, r3, r4, r5⟩ => .bind (Q := fun q => q = lookA T G p 1) ?_ (fun q hq => .ret ⟨rfl, fun _ => hq, r3, r4⟩))))
    unfold f_X5_kindOf
    refine .bind (.val (roleAt_at hN.2 r1.cr hp)) (fun q hq => ?_)
    subst hq
    have e : lookA T G p 1 = if Rof G.1 T.1 p = -1 then -1 else Rof G.1 T.1 p / 2 := rfl
    rw [e]
    refine .ifC (fun hc => .ret (by rw [if_pos hc])) (fun hc => .ret ?_)
    rw [if_neg hc]
    exact idv2 (by omega) (by omega)
  · refine .ifF (by decide) (.ifF (by decide) (.ifT rfl (.bind (c_readNow hW h) (fun M1 ⟨r1, r2, r3, r4, r5⟩ => .bind (Q := fun q => q = lookA T G p 2) ?_ (fun q hq => .ret ⟨rfl, fun _ => hq, r3, r4⟩)))))
    unfold f_X5_sideOf
    refine .bind (.val (roleAt_at hN.2 r1.cr hp)) (fun q hq => ?_)
    subst hq
    have e : lookA T G p 2 = if Rof G.1 T.1 p = -1 then -1 else 1 - Rof G.1 T.1 p % 2 := rfl
    rw [e]
    refine .ifC (fun hc => .ret (by rw [if_pos hc])) (fun hc => .ret ?_)
    rw [if_neg hc, irm2 (by omega) (by omega)]
    exact w32_of (by omega) (by omega)
  · refine .ifF (by decide) (.ifF (by decide) (.ifF (by decide) (.ifT rfl (.bind (c_readNow hW h) (fun M1 ⟨r1, r2, r3, r4, r5⟩ => .bind (.val (partnerOf_at hN.2 r1.cp hp)) (fun q hq => .ret ⟨rfl, fun _ => hq, r3, r4⟩))))))
  · refine .ifF (by decide) (.ifF (by decide) (.ifF (by decide) (.ifF (by decide) (.ifT rfl (.bind (c_readNow hW h) (fun M1 ⟨r1, r2, r3, r4, r5⟩ => .bind (.val (depthOf_at hN.2 r1 hp)) (fun q hq => .ret ⟨rfl, fun _ => hq, r3, r4⟩)))))))
  · refine .ifF (by decide) (.ifF (by decide) (.ifF (by decide) (.ifF (by decide) (.ifF (by decide) (.ifT rfl (.bind (colourOf_at hW h hp) (fun r ⟨r1, r2, r3, r4, r5⟩ => .ret ⟨rfl, fun _ => r1, r4, r5⟩)))))))
  · refine .ifF (by decide) (.ifF (by decide) (.ifF (by decide) (.ifF (by decide) (.ifF (by decide) (.ifF (by decide) (.ifT rfl (.bind (c_readNow hW h) (fun M1 ⟨r1, r2, r3, r4, r5⟩ => .bind (.val (hiddenAs_at hN.2 r1 hp)) (fun q hq => .ret ⟨rfl, fun _ => hq, r3, r4⟩)))))))))
  · refine .ifF (by decide) (.ifF (by decide) (.ifF (by decide) (.ifF (by decide) (.ifF (by decide) (.ifF (by decide) (.ifF (by decide) (.ifT rfl (.bind (.val (c_lineOf hW.1 h.1 p (by omega))) (fun q hq => .ret ⟨rfl, fun _ => hq, h, FrC.rf⟩)))))))))
  · refine .ifF (by decide) (.ifF (by decide) (.ifF (by decide) (.ifF (by decide) (.ifF (by decide) (.ifF (by decide) (.ifF (by decide) (.ifF (by decide) (.ifT rfl (.bind (.val (c_columnOf hW.1 h.1 p (by omega))) (fun q hq => .ret ⟨rfl, fun _ => hq, h, FrC.rf⟩))))))))))
theorem c_look_what {T : Tx} {G : Sn} {B : Bx} {M : Mem} (h : CI T G B M) {p v : Int} (hp : 0 ≤ p ∧ p < T.1.len) (hv : ¬ (0 ≤ v ∧ v ≤ 8)) : Ok (f_X9_look p v M) (fun r => r = (2, 0, M)) := by
  unfold f_X9_look
  refine .bind (.val (askByte_y h.1 hp)) (fun z hz => ?_)
  subst hz
  exact .ifT rfl (.ifF (by omega) (.ifF (by omega) (.ifF (by omega) (.ifF (by omega) (.ifF (by omega) (.ifF (by omega) (.ifF (by omega) (.ifF (by omega) (.ifF (by omega) (.ret rfl))))))))))
theorem c_look_no {T : Tx} {G : Sn} {B : Bx} {M : Mem} (h : CI T G B M) {p : Int} (hp : ¬ (0 ≤ p ∧ p < T.1.len)) (v : Int) : f_X9_look p v M = some (1, 0, M) := by
  unfold f_X9_look
  rw [askByte_n h.1 hp]
  rfl
theorem bn_bd (R : Nat → Int) {N p : Nat} (hp : p < N) (h : R p ≠ -1) : 0 ≤ bn R p ∧ bn R p < N ∧ bn R p = nb R p := by
  have a := nb_bd R p
  have b := nb_bd R N
  have l := nb_lt hp h
  unfold bn
  rw [if_neg h]
  omega
theorem m_look {T : Tx} {G : Sn} {B : Bx} {M : Mem} (hW : WT T) (hG : WG G) (h : MoI T G B M) {p : Nat} (hp : p < Nn T.1) {v : Int} (hv : 0 ≤ v ∧ v ≤ 8) : Ok (f_X10_look p v M) (fun q => q.2 84 0 = 0 ∧ ((0 : Int) = 0 → q.1 = lookA T G p v) ∧ MoI T G B q.2 ∧ FrM M q.2) := by
  have hN := Nn_is hW.1
  have rp := hR_of hG T.1 p
  have c1 := hW.1.2.1.1
  have c9 := hW.1.2.1.2.1
  unfold f_X10_look
  refine .bind (m_noPlace hW hG h p) (fun z ⟨b0, b1, b2, b3, b4⟩ => ?_)
  rw [if_pos (by omega)] at b0 b1
  have bnr : bn (Rof G.1 T.1) p = -1 ↔ Rof G.1 T.1 p = -1 := by
    by_cases x : Rof G.1 T.1 p = -1
    · unfold bn; rw [if_pos x]; exact ⟨fun _ => x, fun _ => rfl⟩
    · have := bn_bd (Rof G.1 T.1) hp x
      exact ⟨fun y => by omega, fun y => absurd y x⟩
  have bnb : bn (Rof G.1 T.1) p = -1 ∨ (0 ≤ bn (Rof G.1 T.1) p ∧ bn (Rof G.1 T.1) p < Nn T.1) := by
    by_cases x : Rof G.1 T.1 p = -1
    · exact Or.inl (bnr.mpr x)
    · have := bn_bd (Rof G.1 T.1) hp x
      exact Or.inr ⟨this.1, this.2.1⟩
  refine .ifT b0 (.bind (.val (isIn_y z.2 hv)) (fun y hy => .ifF (by omega) (.bind (.val (throws_no 2 b1)) (fun w hw => ?_))))
  subst hw
  refine .ifT rfl (.bind (.val (bracketAt_at b2.1 hp)) (fun u hu => ?_))
  subst hu
  have hv2 : v = 0 ∨ v = 1 ∨ v = 2 ∨ v = 3 ∨ v = 4 ∨ v = 5 ∨ v = 6 ∨ v = 7 ∨ v = 8 := by omega
  rcases hv2 with rfl | rfl | rfl | rfl | rfl | rfl | rfl | rfl | rfl
  · refine .ifT rfl (.ifT (by rw [w32_of (by omega) (by omega)]; omega) (.ret ⟨b1, fun _ => ?_, b3, b4⟩))
    rw [w32_of (by omega) (by omega)]
    have := b3.1.2.2.2.2.2.2.1 p (by omega) (by omega)
    rw [Int.zero_add] at this
    exact this
  · refine .ifF (by decide) (.ifT rfl (.ifC (fun hc => .ret ⟨b1, fun _ => ?_, b3, b4⟩) (fun hc => .ifT (by omega) (.ret ⟨b1, fun _ => ?_, b3, b4⟩))))
    · have e : lookA T G p 1 = if Rof G.1 T.1 p = -1 then -1 else Rof G.1 T.1 p / 2 := rfl
      rw [e, if_pos (bnr.mp hc)]
    · have e : lookA T G p 1 = if Rof G.1 T.1 p = -1 then -1 else Rof G.1 T.1 p / 2 := rfl
      have nr : Rof G.1 T.1 p ≠ -1 := fun x => hc (bnr.mpr x)
      rw [e, if_neg nr, (bn_bd (Rof G.1 T.1) hp nr).2.2]
      exact (b2.1.2.2.2.1.2 p hp nr).2.1
  · refine .ifF (by decide) (.ifF (by decide) (.ifT rfl (.ifC (fun hc => .ret ⟨b1, fun _ => ?_, b3, b4⟩) (fun hc => .ifT (by omega) (.ifC (fun hd => .ret ⟨b1, fun _ => ?_, b3, b4⟩) (fun hd => .ret ⟨b1, fun _ => ?_, b3, b4⟩))))))
    · have e : lookA T G p 2 = if Rof G.1 T.1 p = -1 then -1 else 1 - Rof G.1 T.1 p % 2 := rfl
      rw [e, if_pos (bnr.mp hc)]
    · have e : lookA T G p 2 = if Rof G.1 T.1 p = -1 then -1 else 1 - Rof G.1 T.1 p % 2 := rfl
      have nr : Rof G.1 T.1 p ≠ -1 := fun x => hc (bnr.mpr x)
      rw [(bn_bd (Rof G.1 T.1) hp nr).2.2, (b2.1.2.2.2.1.2 p hp nr).2.2] at hd
      rw [e, if_neg nr, hd]
    · have e : lookA T G p 2 = if Rof G.1 T.1 p = -1 then -1 else 1 - Rof G.1 T.1 p % 2 := rfl
      have nr : Rof G.1 T.1 p ≠ -1 := fun x => hc (bnr.mpr x)
      rw [(bn_bd (Rof G.1 T.1) hp nr).2.2, (b2.1.2.2.2.1.2 p hp nr).2.2] at hd
      rw [e, if_neg nr]
      omega
  · refine .ifF (by decide) (.ifF (by decide) (.ifF (by decide) (.ifT rfl (.bind (.val (hasPartner_at b2.1 hp)) (fun q hq => .ifC (fun hc => .ret ⟨b1, fun _ => ?_, b3, b4⟩) (fun hc => .bind (.val (v := Pt G.1 T.1 p) ?_) (fun q2 hq2 => .ret ⟨b1, fun _ => hq2, b3, b4⟩)))))))
    · have e : lookA T G p 3 = Pt G.1 T.1 p := rfl
      rw [e]
      by_cases ht : Pt G.1 T.1 p = -1
      · exact ht.symm
      · rw [if_neg ht] at hq; omega
    · have ht : Pt G.1 T.1 p ≠ -1 := fun x => by rw [if_pos x] at hq; omega
      have nr : Rof G.1 T.1 p ≠ -1 := fun x => ht ((PS_of hG T.1).none (hR_of hG T.1) x)
      rw [(bn_bd (Rof G.1 T.1) hp nr).2.2]
      exact end_at b2.1 hp nr ht
  · refine .ifF (by decide) (.ifF (by decide) (.ifF (by decide) (.ifF (by decide) (.ifT rfl (.bind (.val (depthAt_at b2.1 p)) (fun q hq => .ret ⟨b1, fun _ => hq, b3, b4⟩))))))
  · refine .ifF (by decide) (.ifF (by decide) (.ifF (by decide) (.ifF (by decide) (.ifF (by decide) (.ifT rfl (.bind (.val (hasPartner_at b2.1 hp)) (fun q hq => .ifC (fun hc => .ret ⟨b1, fun _ => ?_, b3, b4⟩) (fun hc => .bind (.val (depthAt_at b2.1 p)) (fun d hd => .ifF ?_ (.ret ⟨b1, fun _ => ?_, b3, b4⟩))))))))))
    · have e : lookA T G p 5 = if Pt G.1 T.1 p = -1 then -1 else ar (Pt G.1 T.1) (Nn T.1) p % T.1.col := rfl
      rw [e]
      by_cases ht : Pt G.1 T.1 p = -1
      · rw [if_pos ht]
      · rw [if_neg ht] at hq; omega
    · have ec : z.2 90 10 = T.1.col := b3.1.2.2.1
      show ¬ z.2 90 10 = 0
      omega
    · have e : lookA T G p 5 = if Pt G.1 T.1 p = -1 then -1 else ar (Pt G.1 T.1) (Nn T.1) p % T.1.col := rfl
      have ht : Pt G.1 T.1 p ≠ -1 := fun x => by rw [if_pos x] at hq; omega
      have ec : z.2 90 10 = T.1.col := b3.1.2.2.1
      have b := ar_bd (Pt G.1 T.1) (Nn T.1) p
      rw [e, if_neg ht, hd, ec]
      exact irm_pos b.1 (by omega) (by omega) (by omega)
  · refine .ifF (by decide) (.ifF (by decide) (.ifF (by decide) (.ifF (by decide) (.ifF (by decide) (.ifF (by decide) (.ifT rfl (.ifT (by omega) (.ret ⟨b1, fun _ => b2.2 p hp, b3, b4⟩))))))))
  · refine .ifF (by decide) (.ifF (by decide) (.ifF (by decide) (.ifF (by decide) (.ifF (by decide) (.ifF (by decide) (.ifF (by decide) (.ifT rfl (.bind (.val (m_lineOf hW.1 b3.1 p (by omega))) (fun q hq => .ret ⟨b1, fun _ => hq, b3, b4⟩)))))))))
  · refine .ifF (by decide) (.ifF (by decide) (.ifF (by decide) (.ifF (by decide) (.ifF (by decide) (.ifF (by decide) (.ifF (by decide) (.ifF (by decide) (.bind (.val (m_columnOf hW.1 b3.1 p (by omega))) (fun q hq => .ret ⟨b1, fun _ => hq, b3, b4⟩)))))))))
theorem m_look_what {T : Tx} {G : Sn} {B : Bx} {M : Mem} (hW : WT T) (hG : WG G) (h : MoI T G B M) {p : Int} (hp : 0 ≤ p ∧ p < T.1.len) {v : Int} (hv : ¬ (0 ≤ v ∧ v ≤ 8)) (val : Int) : Ok (f_X10_look p v M) (fun q => q.2 84 0 = 2 ∧ ((2 : Int) = 0 → q.1 = val) ∧ MoI T G B q.2 ∧ FrM M q.2) := by
  unfold f_X10_look
  refine .bind (m_noPlace hW hG h p) (fun z ⟨b0, b1, b2, b3, b4⟩ => ?_)
  rw [if_pos hp] at b0 b1
  refine .ifT b0 (.bind (.val (isIn_n z.2 hv)) (fun y hy => .ifT hy (.bind (throws_yes 2 (by decide) b1) (fun w ⟨w1, w2⟩ => .ifF (by omega) (.ret ?_)))))
  obtain ⟨c1, c2, c3⟩ := b3.put0 w2
  exact ⟨c3, fun h => absurd h (by decide), c1, b4.trans c2⟩
theorem m_look_no {T : Tx} {G : Sn} {B : Bx} {M : Mem} (hW : WT T) (hG : WG G) (h : MoI T G B M) {p : Int} (hp : ¬ (0 ≤ p ∧ p < T.1.len)) (v : Int) (val : Int) : Ok (f_X10_look p v M) (fun q => q.2 84 0 = 1 ∧ ((1 : Int) = 0 → q.1 = val) ∧ MoI T G B q.2 ∧ FrM M q.2) := by
  unfold f_X10_look
  refine .bind (m_noPlace hW hG h p) (fun z ⟨b0, b1, b2, b3, b4⟩ => ?_)
  rw [if_neg hp] at b0 b1
  exact .ifF (by omega) (.ret ⟨b1, fun h => absurd h (by decide), b3, b4⟩)
theorem law_5_ok {T : Tx} {G : Sn} {B : Bx} {M : Mem} (v1 v2 : Int) (hW : WT T) (hG : WG G) (hC : CI T G B M) (hM : MoI T G B M) : Ok (f_law_5 v1 v2 M) (fun M' => CI T G B M' ∧ MoI T G B M') := by
  unfold f_law_5 f_L_look
  by_cases hp : 0 ≤ v1 ∧ v1 < T.1.len
  · by_cases hv : 0 ≤ v2 ∧ v2 ≤ 8
    · obtain ⟨p, rfl, hp2⟩ := at_place hW.1 hp
      exact lawW 0 0 (lookA T G p v2) hM (c_look hW hG hC hp2 hv) hW (fun _ _ => rfl) (by decide) (fun M1 h1 => m_look hW hG h1 hp2 hv)
    · exact lawW 2 2 0 hM ((c_look_what hC hp hv).mono (fun r hr => by subst hr; exact ⟨rfl, fun h => absurd h (by decide), hC, FrC.rf⟩)) hW (fun _ _ => rfl) (by decide) (fun M1 h1 => m_look_what hW hG h1 hp hv 0)
  · exact lawW 1 1 0 hM (.eq (c_look_no hC hp v2) (.ret ⟨rfl, fun h => absurd h (by decide), hC, FrC.rf⟩)) hW (fun _ _ => rfl) (by decide) (fun M1 h1 => m_look_no hW hG h1 hp v2 0)
