/-! ===== the law's cases 12 and 13, and its loop ===== -/
variable {xt : List (Nat × Nat × Nat × Nat)}
theorem f2d_nan {a : UInt32} (h : isNaN32 a = true) : isNaN64 (FP.f2d a) = true := by
  unfold FP.f2d
  have h1 : FP.Core.fIsNaN a = true := by
    show decide (FP.Core.decode FP.Core.b32 a.toNat = .nan) = true
    rw [nan32_dec h]
    rfl
  rw [if_pos h1]
  unfold FP.nanF2D
  exact isNaN64_or_left (isNaN64_or_right (by decide))
theorem pD_dbl {n d : Int} {v : Value} (h : pD n d v) : ∃ w, v = .double w := by
  unfold pD at h
  by_cases hd : d = 0
  · rw [if_pos hd] at h; exact ⟨_, h⟩
  · rw [if_neg hd] at h; obtain ⟨r, h, -⟩ := h; exact ⟨r, h⟩
theorem pF_flt {n d : Int} {v : Value} (h : pF n d v) : ∃ w, v = .float w := by
  unfold pF at h
  by_cases hd : d = 0
  · rw [if_pos hd] at h; exact ⟨_, h⟩
  · rw [if_neg hd] at h; obtain ⟨r, h, -⟩ := h; exact ⟨r, h⟩
theorem dOK_mean {n d : Int} {w z : UInt64} (h1 : pD n d (.double w)) (h2 : pD n d (.double z)) : dOK w z := by
  unfold pD at h1 h2
  by_cases hd : d = 0
  · rw [if_pos hd] at h1 h2
    cases h1; cases h2
    exact dOK_eq _
  · rw [if_neg hd] at h1 h2
    obtain ⟨r, h1, a1⟩ := h1
    obtain ⟨r', h2, a2⟩ := h2
    cases h1; cases h2
    exact dOK_alike a1 a2
theorem al64_nan {r x : UInt64} (h : alike64 r x = true) (hx : isNaN64 x = true) : isNaN64 r = true := by
  unfold alike64 at h
  simp only [Bool.or_eq_true, decide_eq_true_eq, Bool.and_eq_true] at h
  rcases h with h | h
  · rw [h]; exact hx
  · exact h.1
theorem dOK_share {n d : Int} {w z : UInt32} {r t : UInt64} (h1 : pF n d (.float w)) (h2 : pF n d (.float z)) (hr : alike64 r (FP.f2d w) = true) (ht : alike64 t (FP.f2d z) = true) : dOK r t := by
  unfold pF at h1 h2
  by_cases hd : d = 0
  · rw [if_pos hd] at h1 h2
    cases h1; cases h2
    exact dOK_alike hr ht
  · rw [if_neg hd] at h1 h2
    obtain ⟨r', h1, a1⟩ := h1
    obtain ⟨t', h2, a2⟩ := h2
    cases h1; cases h2
    unfold alike32 at a1 a2
    simp only [Bool.or_eq_true, decide_eq_true_eq, Bool.and_eq_true] at a1 a2
    by_cases he : w = z
    · subst he; exact dOK_alike hr ht
    · have hn : isNaN32 w = true ∧ isNaN32 z = true := by
        rcases a1 with a1 | ⟨a1, a3⟩
        · rcases a2 with a2 | ⟨a2, a4⟩
          · exact absurd (a1.trans a2.symm) he
          · exact ⟨by rw [a1]; exact a4, a2⟩
        · rcases a2 with a2 | ⟨a2, a4⟩
          · exact ⟨a1, by rw [a2]; exact a3⟩
          · exact ⟨a1, a2⟩
      exact dOK_nan (al64_nan hr (f2d_nan hn.1)) (al64_nan ht (f2d_nan hn.2))
def f_law_12 (M : Mem) : Option Mem := (f_X9_meanDepth M).bind fun p => (f_X10_meanDepth p.2.2).bind fun q => if p.1 = q.1 ∧ p.2.1 = q.2.1 then some q.2.2 else none
set_option maxRecDepth 20000 in
theorem rl_12 {G : Gl} {i : Int} {cells slots : Nat} {M res : Mem} (hi0 : 0 ≤ i) (hi1 : i + 6 ≤ (G.2.2.2.2.1 : Nat)) (hL : G.2.2.2.2.1 ≤ 3072) (hcc : cells ≤ 4000) (hss : slots ≤ 300000) (hf : f_law_12 M = some res) (K : ∀ c s : Nat, c ≤ cells + 2 → s ≤ slots + 12 → Run G true room_1 (miL_law xt) (ZL G) c s 1906 [some (aR 199), some (aR 0), some (aR 84), some (aR 113), some (aI i), none, none, none, none] [] res) : Run G true room_1 (miL_law xt) (ZL G) cells slots 844 [some (aR 199), some (aR 0), some (aR 84), some (aR 113), some (aI i), none, none, none, none] [] M := by
  unfold f_law_12 at hf
  obtain ⟨p, hp, hf⟩ := bdE hf
  obtain ⟨q, hq, hf⟩ := bdE hf
  obtain ⟨hpq, hf⟩ := gdE hf
  cases hf
  refine R_aload_n dL_law_844 rfl rfl ?_
  refine R_callVD (As := []) (st := []) dL_law_845 (ct_X9_meanDepth _ hp) mwX9_meanDepth mvX9_meanDepth wd473 cl9 o_0 rfl rfl ⟨nle, nle, lcel (by omega), lslo (by omega)⟩ nle rfl (fun v hv => ?_)
  obtain ⟨w, rfl⟩ := pD_dbl hv
  refine X_dstore1 dL_law_848 (show 6 < 9 by decide) rfl ?_
  refine X_aload_n dL_law_850 rfl rfl ?_
  refine X_callVD (As := []) (st := []) dL_law_851 (ct_X10_meanDepth _ hq) mwX10_meanDepth mvX10_meanDepth wd1715 cl10 o_84 rfl rfl ⟨nle, nle, lcel (by omega), lslo (by omega)⟩ nle rfl (fun v2 hv2 => ?_)
  rw [← hpq.1, ← hpq.2] at hv2
  obtain ⟨z, rfl⟩ := pD_dbl hv2
  have hok : dOK w z := dOK_mean hv hv2
  refine X_dstore2 dL_law_854 (show 8 < 9 by decide) (by decide) rfl ?_
  refine X_dload dL_law_856 (fun ls h => h.1) ?_
  refine X_dload dL_law_858 (fun ls h => h.2) ?_
  refine X_dcmp dL_law_860 ?_
  refine X_if_eq dL_law_861 rfl (fun h1 => ?_) (fun h1 => ?_)
  · exact X_of (R_goto dL_law_882 rfl (K cells slots (by omega) (by omega)))
  · refine X_dload dL_law_864 (fun ls h => h.1) ?_
    refine X_dload dL_law_866 (fun ls h => h.1) ?_
    refine X_dcmp dL_law_868 ?_
    refine X_if_eq dL_law_869 rfl (fun h2 => absurd h2 (hok.resolve_left h1).1) (fun h2 => ?_)
    refine X_dload dL_law_872 (fun ls h => h.2) ?_
    refine X_dload dL_law_874 (fun ls h => h.2) ?_
    refine X_dcmp dL_law_876 ?_
    refine X_if_ne dL_law_877 rfl (fun h3 => ?_) (fun h3 => absurd h3 (hok.resolve_left h1).2)
    exact X_of (R_goto dL_law_882 rfl (K cells slots (by omega) (by omega)))
def f_law_13 (M : Mem) : Option Mem := (f_X9_share M).bind fun p => (f_X10_share p.2.2).bind fun q => if p.1 = q.1 ∧ p.2.1 = q.2.1 then some q.2.2 else none
set_option maxRecDepth 20000 in
theorem rl_13 {G : Gl} {i : Int} {cells slots : Nat} {M res : Mem} (hi0 : 0 ≤ i) (hi1 : i + 6 ≤ (G.2.2.2.2.1 : Nat)) (hL : G.2.2.2.2.1 ≤ 3072) (hcc : cells ≤ 4000) (hss : slots ≤ 300000) (hf : f_law_13 M = some res) (K : ∀ c s : Nat, c ≤ cells + 2 → s ≤ slots + 12 → Run G true room_1 (miL_law xt) (ZL G) c s 1906 [some (aR 199), some (aR 0), some (aR 84), some (aR 113), some (aI i), none, none, none, none] [] res) : Run G true room_1 (miL_law xt) (ZL G) cells slots 885 [some (aR 199), some (aR 0), some (aR 84), some (aR 113), some (aI i), none, none, none, none] [] M := by
  unfold f_law_13 at hf
  obtain ⟨p, hp, hf⟩ := bdE hf
  obtain ⟨q, hq, hf⟩ := bdE hf
  obtain ⟨hpq, hf⟩ := gdE hf
  cases hf
  refine R_aload_n dL_law_885 rfl rfl ?_
  refine R_callVD (As := []) (st := []) dL_law_886 (ct_X9_share _ hp) mwX9_share mvX9_share wd485 cl9 o_0 rfl rfl ⟨nle, nle, lcel (by omega), lslo (by omega)⟩ nle rfl (fun v hv => ?_)
  obtain ⟨w0, rfl⟩ := pF_flt hv
  refine R_f2d dL_law_889 (fun w hw => ?_)
  refine X_dstore1 dL_law_890 (show 6 < 9 by decide) rfl ?_
  refine X_aload_n dL_law_892 rfl rfl ?_
  refine X_callVD (As := []) (st := []) dL_law_893 (ct_X10_share _ hq) mwX10_share mvX10_share wd1719 cl10 o_84 rfl rfl ⟨nle, nle, lcel (by omega), lslo (by omega)⟩ nle rfl (fun v2 hv2 => ?_)
  rw [← hpq.1, ← hpq.2] at hv2
  obtain ⟨z0, rfl⟩ := pF_flt hv2
  refine X_f2d dL_law_896 (fun z hz => ?_)
  have hok : dOK w z := dOK_share hv hv2 hw hz
  refine X_dstore2 dL_law_897 (show 8 < 9 by decide) (by decide) rfl ?_
  refine X_dload dL_law_899 (fun ls h => h.1) ?_
  refine X_dload dL_law_901 (fun ls h => h.2) ?_
  refine X_dcmp dL_law_903 ?_
  refine X_if_eq dL_law_904 rfl (fun h1 => ?_) (fun h1 => ?_)
  · exact X_of (R_goto dL_law_925 rfl (K cells slots (by omega) (by omega)))
  · refine X_dload dL_law_907 (fun ls h => h.1) ?_
    refine X_dload dL_law_909 (fun ls h => h.1) ?_
    refine X_dcmp dL_law_911 ?_
    refine X_if_eq dL_law_912 rfl (fun h2 => absurd h2 (hok.resolve_left h1).1) (fun h2 => ?_)
    refine X_dload dL_law_915 (fun ls h => h.2) ?_
    refine X_dload dL_law_917 (fun ls h => h.2) ?_
    refine X_dcmp dL_law_919 ?_
    refine X_if_ne dL_law_920 rfl (fun h3 => ?_) (fun h3 => absurd h3 (hok.resolve_left h1).2)
    exact X_of (R_goto dL_law_925 rfl (K cells slots (by omega) (by omega)))
/-- one call of the script, on the class and on the model: none where their answers differ -/
def f_law (v0 v1 v2 v3 v4 v5 : Int) (M : Mem) : Option Mem :=
  if ian v0 63 = 0 then f_law_0 v1 v2 v3 v4 v5 M
  else if ian v0 63 = 1 then f_law_1 v1 M
  else if ian v0 63 = 2 then f_law_2 v1 M
  else if ian v0 63 = 3 then f_law_3 M
  else if ian v0 63 = 4 then f_law_4 v1 M
  else if ian v0 63 = 5 then f_law_5 v1 v2 M
  else if ian v0 63 = 6 then f_law_6 v1 v2 M
  else if ian v0 63 = 7 then f_law_7 v1 v2 M
  else if ian v0 63 = 8 then f_law_8 v1 v2 M
  else if ian v0 63 = 9 then f_law_9 v1 M
  else if ian v0 63 = 10 then f_law_10 v1 v2 M
  else if ian v0 63 = 11 then f_law_11 M
  else if ian v0 63 = 12 then f_law_12 M
  else if ian v0 63 = 13 then f_law_13 M
  else if ian v0 63 = 14 then f_law_14 M
  else if ian v0 63 = 15 then f_law_15 M
  else if ian v0 63 = 16 then f_law_16 v1 v2 M
  else if ian v0 63 = 17 then f_law_17 v1 M
  else if ian v0 63 = 18 then f_law_18 M
  else if ian v0 63 = 19 then f_law_19 v1 M
  else if ian v0 63 = 20 then f_law_20 M
  else if ian v0 63 = 21 then f_law_21 v1 M
  else if ian v0 63 = 22 then f_law_22 v1 v2 M
  else if ian v0 63 = 23 then f_law_23 v1 v2 M
  else if ian v0 63 = 24 then f_law_24 v1 v2 v3 M
  else if ian v0 63 = 25 then f_law_25 v1 M
  else if ian v0 63 = 26 then f_law_26 M
  else if ian v0 63 = 27 then f_law_27 v1 M
  else if ian v0 63 = 28 then f_law_28 v1 M
  else if ian v0 63 = 29 then f_law_29 v1 M
  else if ian v0 63 = 30 then f_law_30 v1 v2 v3 M
  else if ian v0 63 = 31 then f_law_31 v1 M
  else if ian v0 63 = 32 then f_law_32 M
  else if ian v0 63 = 33 then f_law_33 v1 M
  else if ian v0 63 = 34 then f_law_34 v1 M
  else some M
set_option maxRecDepth 20000 in
theorem law_loop {G : Gl} (Inv : Mem → Prop) (hL : G.2.2.2.2.1 ≤ 3072) (step : ∀ (v0 v1 v2 v3 v4 v5 : Int) (M : Mem), inR v0 → inR v1 → inR v2 → inR v3 → inR v4 → inR v5 → Inv M → ∃ M', f_law v0 v1 v2 v3 v4 v5 M = some M' ∧ Inv M') : ∀ (r : Nat) (i : Int) (M : Mem) (cells slots : Nat), 0 ≤ i → ((G.2.2.2.2.1 : Nat) : Int) - i ≤ 6 * (r : Int) → i ≤ 3078 → Inv M → (cells : Int) ≤ 200 + i → (slots : Int) ≤ 200000 + 6 * i → Run G true room_1 (miL_law xt) (ZL G) cells slots 23 [some (aR 199), some (aR 0), some (aR 84), some (aR 113), some (aI i), none, none, none, none] [] M := by
  intro r
  induction r with
  | zero =>
    intro i M cells slots hi0 hr hi3 hI hc hs
    refine R_iload dL_law_23 rfl ?_
    refine R_aload_n dL_law_25 rfl rfl ?_
    refine R_slenS dL_law_26 hL ?_
    refine R_bipush dL_law_27 (v := 6) rfl ?_
    refine R_isub dL_law_29 (show ((G.2.2.2.2.1 : Nat) : Int) - 6 = w32 (((G.2.2.2.2.1 : Nat) : Int) - 6) from (w32_of (by omega) (by omega)).symm) ?_
    refine R_icmp_gt dL_law_30 rfl (fun h => ?_) (fun h => absurd (show ((G.2.2.2.2.1 : Nat) : Int) - 6 < i by omega) h)
    refine R_iconst dL_law_1912 (v := 1) rfl ?_
    exact E_lawret dL_law_1913 (by omega) (by omega)
  | succ r ih =>
    intro i M cells slots hi0 hr hi3 hI hc hs
    refine R_iload dL_law_23 rfl ?_
    refine R_aload_n dL_law_25 rfl rfl ?_
    refine R_slenS dL_law_26 hL ?_
    refine R_bipush dL_law_27 (v := 6) rfl ?_
    refine R_isub dL_law_29 (show ((G.2.2.2.2.1 : Nat) : Int) - 6 = w32 (((G.2.2.2.2.1 : Nat) : Int) - 6) from (w32_of (by omega) (by omega)).symm) ?_
    refine R_icmp_gt dL_law_30 rfl (fun h => ?_) (fun h => ?_)
    · refine R_iconst dL_law_1912 (v := 1) rfl ?_
      exact E_lawret dL_law_1913 (by omega) (by omega)
    · have hi1 : i + 6 ≤ ((G.2.2.2.2.1 : Nat) : Int) := by omega
      have hcc : cells ≤ 4000 := by omega
      have hss : slots ≤ 300000 := by omega
      refine R_aload_n dL_law_33 rfl rfl ?_
      refine R_iload dL_law_34 rfl ?_
      obtain ⟨v0, e0⟩ : ∃ v0, v0 = sxs G i := ⟨_, rfl⟩
      obtain ⟨v1, e1⟩ : ∃ v, v = sxs G (i + 1) := ⟨_, rfl⟩
      obtain ⟨v2, e2⟩ : ∃ v, v = sxs G (i + 2) := ⟨_, rfl⟩
      obtain ⟨v3, e3⟩ : ∃ v, v = sxs G (i + 3) := ⟨_, rfl⟩
      obtain ⟨v4, e4⟩ : ∃ v, v = sxs G (i + 4) := ⟨_, rfl⟩
      obtain ⟨v5, e5⟩ : ∃ v, v = sxs G (i + 5) := ⟨_, rfl⟩
      refine R_sload dL_law_36 hi0 (by omega) e0 ?_
      refine R_bipush dL_law_37 (v := 63) rfl ?_
      refine R_iand dL_law_39 rfl ?_
      obtain ⟨M', hf, hI'⟩ := step v0 v1 v2 v3 v4 v5 M (by rw [e0]; exact toInt_in _) (by rw [e1]; exact toInt_in _) (by rw [e2]; exact toInt_in _) (by rw [e3]; exact toInt_in _) (by rw [e4]; exact toInt_in _) (by rw [e5]; exact toInt_in _) hI
      have K : ∀ c s : Nat, c ≤ cells + 2 → s ≤ slots + 12 → Run G true room_1 (miL_law xt) (ZL G) c s 1906 [some (aR 199), some (aR 0), some (aR 84), some (aR 113), some (aI i), none, none, none, none] [] M' := by
        intro c s h1 h2
        refine R_iinc dL_law_1906 rfl rfl (show i + 6 = w32 (i + 6) from (w32_of (by omega) (by omega)).symm) (show 4 < 9 by decide) rfl ?_
        refine R_goto dL_law_1909 rfl ?_
        exact ih (i + 6) M' c s (by omega) (by omega) (by omega) hI' (by omega) (by omega)
      unfold f_law at hf
      by_cases k0 : ian v0 63 = 0
      · replace hf := iposE hf k0
        refine R_switchIn dL_law_40 (by omega) (by omega) (by rw [k0]; rfl) rfl ?_
        exact rl_0 hi0 hi1 hL hcc hss e1 e2 e3 e4 e5 hf K
      replace hf := inegE hf k0
      by_cases k1 : ian v0 63 = 1
      · replace hf := iposE hf k1
        refine R_switchIn dL_law_40 (by omega) (by omega) (by rw [k1]; rfl) rfl ?_
        exact rl_1 hi0 hi1 hL hcc hss e1 hf K
      replace hf := inegE hf k1
      by_cases k2 : ian v0 63 = 2
      · replace hf := iposE hf k2
        refine R_switchIn dL_law_40 (by omega) (by omega) (by rw [k2]; rfl) rfl ?_
        exact rl_2 hi0 hi1 hL hcc hss e1 hf K
      replace hf := inegE hf k2
      by_cases k3 : ian v0 63 = 3
      · replace hf := iposE hf k3
        refine R_switchIn dL_law_40 (by omega) (by omega) (by rw [k3]; rfl) rfl ?_
        exact rl_3 hi0 hi1 hL hcc hss  hf K
      replace hf := inegE hf k3
      by_cases k4 : ian v0 63 = 4
      · replace hf := iposE hf k4
        refine R_switchIn dL_law_40 (by omega) (by omega) (by rw [k4]; rfl) rfl ?_
        exact rl_4 hi0 hi1 hL hcc hss e1 hf K
      replace hf := inegE hf k4
      by_cases k5 : ian v0 63 = 5
      · replace hf := iposE hf k5
        refine R_switchIn dL_law_40 (by omega) (by omega) (by rw [k5]; rfl) rfl ?_
        exact rl_5 hi0 hi1 hL hcc hss e1 e2 hf K
      replace hf := inegE hf k5
      by_cases k6 : ian v0 63 = 6
      · replace hf := iposE hf k6
        refine R_switchIn dL_law_40 (by omega) (by omega) (by rw [k6]; rfl) rfl ?_
        exact rl_6 hi0 hi1 hL hcc hss e1 e2 hf K
      replace hf := inegE hf k6
      by_cases k7 : ian v0 63 = 7
      · replace hf := iposE hf k7
        refine R_switchIn dL_law_40 (by omega) (by omega) (by rw [k7]; rfl) rfl ?_
        exact rl_7 hi0 hi1 hL hcc hss e1 e2 hf K
      replace hf := inegE hf k7
      by_cases k8 : ian v0 63 = 8
      · replace hf := iposE hf k8
        refine R_switchIn dL_law_40 (by omega) (by omega) (by rw [k8]; rfl) rfl ?_
        exact rl_8 hi0 hi1 hL hcc hss e1 e2 hf K
      replace hf := inegE hf k8
      by_cases k9 : ian v0 63 = 9
      · replace hf := iposE hf k9
        refine R_switchIn dL_law_40 (by omega) (by omega) (by rw [k9]; rfl) rfl ?_
        exact rl_9 hi0 hi1 hL hcc hss e1 hf K
      replace hf := inegE hf k9
      by_cases k10 : ian v0 63 = 10
      · replace hf := iposE hf k10
        refine R_switchIn dL_law_40 (by omega) (by omega) (by rw [k10]; rfl) rfl ?_
        exact rl_10 hi0 hi1 hL hcc hss e1 e2 hf K
      replace hf := inegE hf k10
      by_cases k11 : ian v0 63 = 11
      · replace hf := iposE hf k11
        refine R_switchIn dL_law_40 (by omega) (by omega) (by rw [k11]; rfl) rfl ?_
        exact rl_11 hi0 hi1 hL hcc hss  hf K
      replace hf := inegE hf k11
      by_cases k12 : ian v0 63 = 12
      · replace hf := iposE hf k12
        refine R_switchIn dL_law_40 (by omega) (by omega) (by rw [k12]; rfl) rfl ?_
        exact rl_12 hi0 hi1 hL hcc hss  hf K
      replace hf := inegE hf k12
      by_cases k13 : ian v0 63 = 13
      · replace hf := iposE hf k13
        refine R_switchIn dL_law_40 (by omega) (by omega) (by rw [k13]; rfl) rfl ?_
        exact rl_13 hi0 hi1 hL hcc hss  hf K
      replace hf := inegE hf k13
      by_cases k14 : ian v0 63 = 14
      · replace hf := iposE hf k14
        refine R_switchIn dL_law_40 (by omega) (by omega) (by rw [k14]; rfl) rfl ?_
        exact rl_14 hi0 hi1 hL hcc hss  hf K
      replace hf := inegE hf k14
      by_cases k15 : ian v0 63 = 15
      · replace hf := iposE hf k15
        refine R_switchIn dL_law_40 (by omega) (by omega) (by rw [k15]; rfl) rfl ?_
        exact rl_15 hi0 hi1 hL hcc hss  hf K
      replace hf := inegE hf k15
      by_cases k16 : ian v0 63 = 16
      · replace hf := iposE hf k16
        refine R_switchIn dL_law_40 (by omega) (by omega) (by rw [k16]; rfl) rfl ?_
        exact rl_16 hi0 hi1 hL hcc hss e1 e2 hf K
      replace hf := inegE hf k16
      by_cases k17 : ian v0 63 = 17
      · replace hf := iposE hf k17
        refine R_switchIn dL_law_40 (by omega) (by omega) (by rw [k17]; rfl) rfl ?_
        exact rl_17 hi0 hi1 hL hcc hss e1 hf K
      replace hf := inegE hf k17
      by_cases k18 : ian v0 63 = 18
      · replace hf := iposE hf k18
        refine R_switchIn dL_law_40 (by omega) (by omega) (by rw [k18]; rfl) rfl ?_
        exact rl_18 hi0 hi1 hL hcc hss  hf K
      replace hf := inegE hf k18
      by_cases k19 : ian v0 63 = 19
      · replace hf := iposE hf k19
        refine R_switchIn dL_law_40 (by omega) (by omega) (by rw [k19]; rfl) rfl ?_
        exact rl_19 hi0 hi1 hL hcc hss e1 hf K
      replace hf := inegE hf k19
      by_cases k20 : ian v0 63 = 20
      · replace hf := iposE hf k20
        refine R_switchIn dL_law_40 (by omega) (by omega) (by rw [k20]; rfl) rfl ?_
        exact rl_20 hi0 hi1 hL hcc hss  hf K
      replace hf := inegE hf k20
      by_cases k21 : ian v0 63 = 21
      · replace hf := iposE hf k21
        refine R_switchIn dL_law_40 (by omega) (by omega) (by rw [k21]; rfl) rfl ?_
        exact rl_21 hi0 hi1 hL hcc hss e1 hf K
      replace hf := inegE hf k21
      by_cases k22 : ian v0 63 = 22
      · replace hf := iposE hf k22
        refine R_switchIn dL_law_40 (by omega) (by omega) (by rw [k22]; rfl) rfl ?_
        exact rl_22 hi0 hi1 hL hcc hss e1 e2 hf K
      replace hf := inegE hf k22
      by_cases k23 : ian v0 63 = 23
      · replace hf := iposE hf k23
        refine R_switchIn dL_law_40 (by omega) (by omega) (by rw [k23]; rfl) rfl ?_
        exact rl_23 hi0 hi1 hL hcc hss e1 e2 hf K
      replace hf := inegE hf k23
      by_cases k24 : ian v0 63 = 24
      · replace hf := iposE hf k24
        refine R_switchIn dL_law_40 (by omega) (by omega) (by rw [k24]; rfl) rfl ?_
        exact rl_24 hi0 hi1 hL hcc hss e1 e2 e3 hf K
      replace hf := inegE hf k24
      by_cases k25 : ian v0 63 = 25
      · replace hf := iposE hf k25
        refine R_switchIn dL_law_40 (by omega) (by omega) (by rw [k25]; rfl) rfl ?_
        exact rl_25 hi0 hi1 hL hcc hss e1 hf K
      replace hf := inegE hf k25
      by_cases k26 : ian v0 63 = 26
      · replace hf := iposE hf k26
        refine R_switchIn dL_law_40 (by omega) (by omega) (by rw [k26]; rfl) rfl ?_
        exact rl_26 hi0 hi1 hL hcc hss  hf K
      replace hf := inegE hf k26
      by_cases k27 : ian v0 63 = 27
      · replace hf := iposE hf k27
        refine R_switchIn dL_law_40 (by omega) (by omega) (by rw [k27]; rfl) rfl ?_
        exact rl_27 hi0 hi1 hL hcc hss e1 hf K
      replace hf := inegE hf k27
      by_cases k28 : ian v0 63 = 28
      · replace hf := iposE hf k28
        refine R_switchIn dL_law_40 (by omega) (by omega) (by rw [k28]; rfl) rfl ?_
        exact rl_28 hi0 hi1 hL hcc hss e1 hf K
      replace hf := inegE hf k28
      by_cases k29 : ian v0 63 = 29
      · replace hf := iposE hf k29
        refine R_switchIn dL_law_40 (by omega) (by omega) (by rw [k29]; rfl) rfl ?_
        exact rl_29 hi0 hi1 hL hcc hss e1 hf K
      replace hf := inegE hf k29
      by_cases k30 : ian v0 63 = 30
      · replace hf := iposE hf k30
        refine R_switchIn dL_law_40 (by omega) (by omega) (by rw [k30]; rfl) rfl ?_
        exact rl_30 hi0 hi1 hL hcc hss e1 e2 e3 hf K
      replace hf := inegE hf k30
      by_cases k31 : ian v0 63 = 31
      · replace hf := iposE hf k31
        refine R_switchIn dL_law_40 (by omega) (by omega) (by rw [k31]; rfl) rfl ?_
        exact rl_31 hi0 hi1 hL hcc hss e1 hf K
      replace hf := inegE hf k31
      by_cases k32 : ian v0 63 = 32
      · replace hf := iposE hf k32
        refine R_switchIn dL_law_40 (by omega) (by omega) (by rw [k32]; rfl) rfl ?_
        exact rl_32 hi0 hi1 hL hcc hss  hf K
      replace hf := inegE hf k32
      by_cases k33 : ian v0 63 = 33
      · replace hf := iposE hf k33
        refine R_switchIn dL_law_40 (by omega) (by omega) (by rw [k33]; rfl) rfl ?_
        exact rl_33 hi0 hi1 hL hcc hss e1 hf K
      replace hf := inegE hf k33
      by_cases k34 : ian v0 63 = 34
      · replace hf := iposE hf k34
        refine R_switchIn dL_law_40 (by omega) (by omega) (by rw [k34]; rfl) rfl ?_
        exact rl_34 hi0 hi1 hL hcc hss e1 hf K
      replace hf := inegE hf k34
      cases hf
      refine R_switchOut dL_law_40 (by omega) rfl ?_
      exact K cells slots (by omega) (by omega)
