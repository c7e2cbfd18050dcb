/-! ===== a script's orders, one after another ===== -/
theorem Ok.and {α : Type} {x : Option α} {P Q : α → Prop} (h1 : Ok x P) (h2 : Ok x Q) : Ok x (fun a => P a ∧ Q a) := by
  obtain ⟨a, ea, pa⟩ := h1
  obtain ⟨b, eb, qb⟩ := h2
  rw [ea] at eb
  exact ⟨a, ea, pa, by rw [Option.some.inj eb]; exact qb⟩
theorem fl_l {T : Tx} {G : Sn} {B : Bx} {Mc Mm : Mem} {X Y : Option (Int × Mem)} (h : Both X Y (DoR T G B Mc Mm)) : Both (X.bind fun p => if p.1 = 0 ∨ p.1 = 1 then some (p.1, p.2) else none) Y (DoR T G B Mc Mm) := by
  obtain ⟨a, b, ea, eb, hr⟩ := h
  rw [ea, eb]
  refine Both.lT ?_ (.ret hr)
  obtain ⟨_, _, h | h⟩ := hr
  · exact Or.inr h.1
  · exact Or.inl h.1
theorem fl_r {T : Tx} {G : Sn} {B : Bx} {Mc Mm : Mem} {X Y : Option (Int × Mem)} (h : Both X Y (DoR T G B Mc Mm)) : Both X (Y.bind fun p => if p.1 = 0 ∨ p.1 = 1 then some (p.1, p.2) else none) (DoR T G B Mc Mm) := by
  obtain ⟨a, b, ea, eb, hr⟩ := h
  rw [ea, eb]
  refine Both.rT ?_ (.ret hr)
  obtain ⟨_, _, h | h⟩ := hr
  · exact Or.inr h.2.1
  · exact Or.inl h.2.1
theorem does_one {T : Tx} {G : Sn} {B : Bx} {Mc Mm : Mem} {V : Nat → Int} {A : Nat → Nat → Int} {n i : Nat} (hW : WT T) (hG : WG G) (hC : CI T G B Mc) (hM : MoI T G B Mm) (hO : OQ V A n Mc) (hQ : OM V A n Mm) (hw : OW V A n) (hi : i < n) : Both (f_X9_follow i Mc) (f_X10_doesOne i Mm) (DoR T G B Mc Mm) := by
  have n100 := hw.1
  obtain ⟨v0, v5, va⟩ := hw.2 i hi
  obtain ⟨o1, o2⟩ := hO.2 i hi
  obtain ⟨q1, q2⟩ := hQ.2 i hi
  have N0 := numberOf_at (i := i) (j := 0) (w := 0) (by omega) (by omega) rfl Mc
  have N1 := numberOf_at (i := i) (j := 1) (w := 1) (by omega) (by omega) rfl Mc
  have N2 := numberOf_at (i := i) (j := 2) (w := 2) (by omega) (by omega) rfl Mc
  have VB := verbOf_at (i := i) (by omega) Mc
  unfold f_X9_follow f_X10_doesOne
  refine .rT (by omega) (.rl (.rl ?_))
  have cs : V i = 0 ∨ V i = 1 ∨ V i = 2 ∨ V i = 3 ∨ V i = 4 ∨ V i = 5 := by omega
  rcases cs with hv | hv | hv | hv | hv | hv
  · have k2 : nm (V i) = 2 := by rw [hv]; decide
    refine .vl N0 (o2 0 (by omega)) (.vl N1 (o2 1 (by omega)) (.vl VB (o1.trans hv) (.lT rfl (.rT (q1.trans hv) ?_))))
    rw [show Mm 106 i = A i 0 from q2 0 (by omega), show Mm 107 i = A i 1 from q2 1 (by omega)]
    exact fl_l (do_erase hW hC hM (va 0 (by omega)).1 (va 1 (by omega)).1)
  · have k2 : nm (V i) = 2 := by rw [hv]; decide
    have q1 := q1.trans hv
    refine .vl N0 (o2 0 (by omega)) (.vl N1 (o2 1 (by omega)) (.vl VB (o1.trans hv) (.lF (by decide) (.lT rfl (.rF (by omega) (.rT q1 ?_))))))
    rw [show Mm 106 i = A i 0 from q2 0 (by omega), show Mm 107 i = A i 1 from q2 1 (by omega)]
    exact fl_l (do_put hW hC hM (va 0 (by omega)).1)
  · have k2 : nm (V i) = 2 := by rw [hv]; decide
    have q1 := q1.trans hv
    refine .vl N0 (o2 0 (by omega)) (.vl N1 (o2 1 (by omega)) (.vl VB (o1.trans hv) (.lF (by decide) (.lF (by decide) (.lT rfl (.rF (by omega) (.rF (by omega) (.rT q1 ?_))))))))
    rw [show Mm 106 i = A i 0 from q2 0 (by omega), show Mm 107 i = A i 1 from q2 1 (by omega)]
    exact fl_r (fl_l (do_swap hW hC hM (va 0 (by omega)).1 (va 1 (by omega)).1))
  · have k3 : nm (V i) = 3 := by rw [hv]; decide
    have q1 := q1.trans hv
    refine .vl N0 (o2 0 (by omega)) (.vl N1 (o2 1 (by omega)) (.vl VB (o1.trans hv) (.lF (by decide) (.lF (by decide) (.lF (by decide) (.lT rfl (.vl N2 (o2 2 (by omega)) (.rF (by omega) (.rF (by omega) (.rF (by omega) (.rT q1 ?_)))))))))))
    rw [show Mm 106 i = A i 0 from q2 0 (by omega), show Mm 107 i = A i 1 from q2 1 (by omega), show Mm 108 i = A i 2 from q2 2 (by omega)]
    exact fl_l (do_wrap hW hG hC hM (va 0 (by omega)).1 (va 2 (by omega)).1)
  · have q1 := q1.trans hv
    exact .vl N0 rfl (.vl N1 rfl (.vl VB (o1.trans hv) (.lF (by decide) (.lF (by decide) (.lF (by decide) (.lF (by decide) (.lT rfl (.rF (by omega) (.rF (by omega) (.rF (by omega) (.rF (by omega) (.rT q1 (do_repair hW hG hC hM)))))))))))))
  · have k1 : nm (V i) = 1 := by rw [hv]; decide
    have q1 := q1.trans hv
    refine .vl N0 (o2 0 (by omega)) (.vl N1 rfl (.vl VB (o1.trans hv) (.lF (by decide) (.lF (by decide) (.lF (by decide) (.lF (by decide) (.lF (by decide) (.rF (by omega) (.rF (by omega) (.rF (by omega) (.rF (by omega) (.rF (by omega) ?_)))))))))))) 
    rw [show Mm 106 i = A i 0 from q2 0 (by omega)]
    exact do_want hW hG hC hM (A i 0)
/-- how a script ends -/
def ExR (T : Tx) (G : Sn) (B : Bx) (Mc0 Mm0 : Mem) (r : Nat × Int × Mem) (q : Int × Mem) : Prop := r.1 = 0 ∧ q.1 = r.2.1 ∧ FrC Mc0 r.2.2 ∧ FrM Mm0 q.2 ∧ q.2 84 0 = Mm0 84 0 ∧ ∃ T', WT T' ∧ CI T' G B r.2.2 ∧ MoI T' G B q.2
theorem exec_L {T : Tx} {G : Sn} {B : Bx} {Mc0 Mm0 : Mem} {V : Nat → Int} {A : Nat → Nat → Int} {n : Nat} {P0 : Pg} (hW : WT T) (hW0 : Wf P0) (hG : WG G) (hw : OW V A n) : ∀ (r fc fm i : Nat) (P : Pg) (Mc Mm : Mem), n - i = r → r < fc → r < fm → i ≤ n → Wf P → CI (P, T.2) G B Mc → MoI (P, T.2) G B Mm → OQ V A n Mc → OM V A n Mm → PgC Mc 17 P0 → PgM Mm 109 0 P0 → FrC Mc0 Mc → FrM Mm0 Mm → Mm 84 0 = Mm0 84 0 → Both (f_X9_script_L60 fc i Mc) (f_X10_script_L90 fm i Mm) (ExR T G B Mc0 Mm0) := by
  have n100 := hw.1
  intro r
  induction r with
  | zero =>
    intro fc fm i P Mc Mm hr hfc hfm hi hP hC hM hO hQ hp hm fa fb f0
    obtain ⟨fc, rfl⟩ : ∃ f, fc = f + 1 := ⟨fc - 1, by omega⟩
    obtain ⟨fm, rfl⟩ : ∃ f, fm = f + 1 := ⟨fm - 1, by omega⟩
    have hW' : WT (P, T.2) := hW.page hP
    rw [f_X9_script_L60, f_X10_script_L90, hO.1, hQ.1]
    unfold f_X9_script_K105
    refine .lT (by omega) (.rT (by omega) (.bl ((c_keep17 hW' hC hp hW0).and (keep_ok 17 (Or.inr rfl) Mc hp hW0 hC.2.1 hW'.2.1)) (fun M1 ⟨⟨a1, a2⟩, ⟨_, a4⟩⟩ => .br (keepsRow_ok 109 (Or.inr rfl) Mm hm hW0 hM.2.1 hW'.2.1) (fun M2 ⟨b1, b2⟩ => .ret ?_))))
    obtain ⟨h1, h2, h3, h4, h5, h6, h7⟩ := hM
    refine ⟨rfl, ?_, fa.trans a2, fb.trans (fun c i hc => b2 c i (by omega) (by omega)), ?_, (P, pushN T.2.1, pushH T.2.1 T.2.2.1 P0, T.2.2.2), ⟨hP, pushW hW.2.1 hW0, hW.2.2⟩, a1, ⟨h1.same (fun i => b2 90 i (by omega) (by omega)), b1, h3.same (fun c i hc => b2 c i (by omega) (by omega)), h4.same (fun c i hc => b2 c i (by omega) (by omega)), h5.same (fun c i hc => b2 c i (by omega) (by omega)), (b2 84 23 (by omega) (by omega)).trans h6, h7.same (fun c i hc => b2 c i (by omega) (by omega))⟩⟩
    · show M2 84 40 = M1 8 2
      rw [b2 84 40 (by omega) (by omega), a4 8 (by omega) 2, hO.1, hQ.1]
    · show M2 84 0 = Mm0 84 0
      rw [b2 84 0 (by omega) (by omega)]; exact f0
  | succ r ih =>
    intro fc fm i P Mc Mm hr hfc hfm hi hP hC hM hO hQ hp hm fa fb f0
    obtain ⟨fc, rfl⟩ : ∃ f, fc = f + 1 := ⟨fc - 1, by omega⟩
    obtain ⟨fm, rfl⟩ : ∃ f, fm = f + 1 := ⟨fm - 1, by omega⟩
    have hW' : WT (P, T.2) := hW.page hP
    rw [f_X9_script_L60, f_X10_script_L90, hO.1, hQ.1]
    refine .lF (by omega) (.rF (by omega) (.bind (does_one hW' hG hC hM hO hQ hw (by omega)) (fun a b hab => ?_)))
    obtain ⟨x, y, hz⟩ := hab
    have hp' : PgC a.2 17 P0 := hp.same (fun i => x _ i (by omega)) (fun i => x _ i (by omega)) (fun i => x _ i (by omega))
    have hm' : PgM b.2 109 0 P0 := hm.same (fun i => y _ i (by omega))
    have fa' : FrC Mc0 a.2 := fa.trans (fun c i hc => x c i (by omega))
    have fb' : FrM Mm0 b.2 := fb.trans (fun c i hc => y c i (by omega))
    have f0' : b.2 84 0 = Mm0 84 0 := (y 84 0 (by omega)).trans f0
    rcases hz with ⟨a1, b1, P', w', c', m'⟩ | ⟨a1, b1, c', m'⟩
    · refine .lF (by omega) (.rF (by omega) (.ll (.rl ?_)))
      rw [w32_of (i := (i : Int) + 1) (by omega) (by omega)]
      exact ih fc fm (i + 1) P' a.2 b.2 (by omega) (by omega) (by omega) (by omega) w' c' m' (hO.fr x) (hQ.fr y) hp' hm' fa' fb' f0'
    · refine .lT a1 (.rT b1 ?_)
      unfold f_X9_script_K79 f_X10_script_K106
      refine .bl (copyFrom_ok (o := 14) (o1 := 17) (by omega) (by omega) (by omega) (by omega) a.2 hp' hW0) (fun M1 ⟨d1, d2⟩ => .bl (c_edit hW' c' d1 d2) (fun M2 ⟨e1, e2⟩ => .br (copies_ok 109 90 0 0 (by omega) (by omega) (by decide) (by decide) (by omega) (by omega) (by omega) b.2) (fun M3 g => .ret ?_)))
      have g1 : PgM M3 90 0 P0 := hm'.copied hW0 (fun i h0 h1 => by rw [g, if_pos ⟨rfl, h0, h1⟩])
      have g2 : Fr1 b.2 M3 90 := fun b hb i => by rw [g, if_neg (by omega)]
      obtain ⟨k1, k2⟩ := m_edit m' g1 g2
      exact ⟨rfl, rfl, fa'.trans (fun c i hc => e2 c i (by omega)), fb'.trans (fun c i hc => k2 c i (by omega)), (k2 84 0 (by omega)).trans f0', (P0, T.2), hW.page hW0, e1, k1⟩
