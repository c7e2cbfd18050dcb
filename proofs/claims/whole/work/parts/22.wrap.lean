/-! ===== the wrappers of the law ===== -/
theorem wwL_setup : WW miL_setup yL_setup 3 := ⟨wd704, wd0, ⟨by decide +kernel, by decide +kernel, by decide +kernel⟩, by decide +kernel, rfl, msL_setup⟩
def f_L_setup (v1 : Int) (M : Mem) : Option (Int × Mem) := (f_X9_setup v1 M).bind fun p => if p.1 = 0 then (some (0, up p.2.2 113 0 p.2.1)) else if p.1 = 2 then some (1, p.2.2) else none
set_option maxRecDepth 20000 in
theorem ct_L_setup {G : Gl} (v1 : Int) (M : Mem) {res : Int × Mem} (hf : f_L_setup v1 M = some res) : CtW G miL_setup yL_setup 9 1 6 [aR 0, aI v1, aR 113] M (some (aI res.1)) res.2 := by
  refine CtW.of (L := [some (aR 0), some (aI v1), some (aR 113), none]) wwL_setup trivial nle ⟨rfl, rfl, rfl, trivial⟩ ?_
  unfold f_L_setup at hf
  obtain ⟨p, hp, hf⟩ := bdE hf
  refine R_aload_n dL_setup_0 rfl rfl ?_
  refine R_iconst dL_setup_1 (v := 0) rfl ?_
  refine R_aload_n dL_setup_2 rfl rfl ?_
  refine R_iload_n dL_setup_3 rfl rfl ?_
  refine R_callVXc (As := [aI v1]) (st := [aI 0, aR 113]) dL_setup_4 (ct_X9_setup _ _ hp) mwX9_setup mvX9_setup wd706 cl9 o_0 rfl rfl ⟨nle, nle, nle, nle⟩ nle rfl (fun hx => ?_) (fun hx => ?_)
  · replace hf := inegE hf hx
    by_cases h0 : p.1 = 2
    · replace hf := iposE hf h0
      cases hf
      refine ⟨12, by rw [h0]; exact ⟨[], [], 0, 9, 13, rfl, (fun z hz => nomatch hz), by decide, by decide, by decide, wd705, wd716⟩, fun q => ?_⟩
      refine R_astoreV_n dL_setup_12 rfl (by decide) rfl ?_
      refine R_iconst dL_setup_13 (v := 1) rfl ?_
      exact EW_iret dL_setup_14 rfl rfl rfl
    replace hf := inegE hf h0
    cases hf
  · replace hf := iposE hf hx
    cases hf
    refine R_i2l dL_setup_7 (fun hin => ?_)
    refine R_lastore dL_setup_8 a_113 (by decide) (by decide) hin rfl ?_
    refine R_goto dL_setup_9 rfl ?_
    refine R_iconst dL_setup_15 (v := 0) rfl ?_
    exact EW_iret dL_setup_16 rfl rfl rfl
theorem wwL_load : WW miL_load yL_load 3 := ⟨wd940, wd0, ⟨by decide +kernel, by decide +kernel, by decide +kernel⟩, by decide +kernel, rfl, msL_load⟩
def f_L_load (v1 : Int) (M : Mem) : Option (Int × Mem) := (f_X9_load v1 M).bind fun p => if p.1 = 0 then (some (0, up p.2.2 113 0 p.2.1)) else if p.1 = 2 then some (1, p.2.2) else none
set_option maxRecDepth 20000 in
theorem ct_L_load {G : Gl} (v1 : Int) (M : Mem) {res : Int × Mem} (hf : f_L_load v1 M = some res) : CtW G miL_load yL_load 8 1 6 [aR 0, aI v1, aR 113] M (some (aI res.1)) res.2 := by
  refine CtW.of (L := [some (aR 0), some (aI v1), some (aR 113), none]) wwL_load trivial nle ⟨rfl, rfl, rfl, trivial⟩ ?_
  unfold f_L_load at hf
  obtain ⟨p, hp, hf⟩ := bdE hf
  refine R_aload_n dL_load_0 rfl rfl ?_
  refine R_iconst dL_load_1 (v := 0) rfl ?_
  refine R_aload_n dL_load_2 rfl rfl ?_
  refine R_iload_n dL_load_3 rfl rfl ?_
  refine R_callVXc (As := [aI v1]) (st := [aI 0, aR 113]) dL_load_4 (ct_X9_load _ _ hp) mwX9_load mvX9_load wd941 cl9 o_0 rfl rfl ⟨nle, nle, nle, nle⟩ nle rfl (fun hx => ?_) (fun hx => ?_)
  · replace hf := inegE hf hx
    by_cases h0 : p.1 = 2
    · replace hf := iposE hf h0
      cases hf
      refine ⟨12, by rw [h0]; exact ⟨[], [], 0, 9, 13, rfl, (fun z hz => nomatch hz), by decide, by decide, by decide, wd705, wd716⟩, fun q => ?_⟩
      refine R_astoreV_n dL_load_12 rfl (by decide) rfl ?_
      refine R_iconst dL_load_13 (v := 1) rfl ?_
      exact EW_iret dL_load_14 rfl rfl rfl
    replace hf := inegE hf h0
    cases hf
  · replace hf := iposE hf hx
    cases hf
    refine R_i2l dL_load_7 (fun hin => ?_)
    refine R_lastore dL_load_8 a_113 (by decide) (by decide) hin rfl ?_
    refine R_goto dL_load_9 rfl ?_
    refine R_iconst dL_load_15 (v := 0) rfl ?_
    exact EW_iret dL_load_16 rfl rfl rfl
theorem wwL_size : WW miL_size yL_size 3 := ⟨wd964, wd0, ⟨by decide +kernel, by decide +kernel, by decide +kernel⟩, by decide +kernel, rfl, msL_size⟩
def f_L_size (v1 : Int) (M : Mem) : Option (Int × Mem) := (f_X9_size v1 M).bind fun p => if p.1 = 0 then (some (0, up p.2.2 113 0 p.2.1)) else if p.1 = 2 then some (1, p.2.2) else none
set_option maxRecDepth 20000 in
theorem ct_L_size {G : Gl} (v1 : Int) (M : Mem) {res : Int × Mem} (hf : f_L_size v1 M = some res) : CtW G miL_size yL_size 7 1 6 [aR 0, aI v1, aR 113] M (some (aI res.1)) res.2 := by
  refine CtW.of (L := [some (aR 0), some (aI v1), some (aR 113), none]) wwL_size trivial nle ⟨rfl, rfl, rfl, trivial⟩ ?_
  unfold f_L_size at hf
  obtain ⟨p, hp, hf⟩ := bdE hf
  refine R_aload_n dL_size_0 rfl rfl ?_
  refine R_iconst dL_size_1 (v := 0) rfl ?_
  refine R_aload_n dL_size_2 rfl rfl ?_
  refine R_iload_n dL_size_3 rfl rfl ?_
  refine R_callVXc (As := [aI v1]) (st := [aI 0, aR 113]) dL_size_4 (ct_X9_size _ _ hp) mwX9_size mvX9_size wd965 cl9 o_0 rfl rfl ⟨nle, nle, nle, nle⟩ nle rfl (fun hx => ?_) (fun hx => ?_)
  · replace hf := inegE hf hx
    by_cases h0 : p.1 = 2
    · replace hf := iposE hf h0
      cases hf
      refine ⟨12, by rw [h0]; exact ⟨[], [], 0, 9, 13, rfl, (fun z hz => nomatch hz), by decide, by decide, by decide, wd705, wd716⟩, fun q => ?_⟩
      refine R_astoreV_n dL_size_12 rfl (by decide) rfl ?_
      refine R_iconst dL_size_13 (v := 1) rfl ?_
      exact EW_iret dL_size_14 rfl rfl rfl
    replace hf := inegE hf h0
    cases hf
  · replace hf := iposE hf hx
    cases hf
    refine R_i2l dL_size_7 (fun hin => ?_)
    refine R_lastore dL_size_8 a_113 (by decide) (by decide) hin rfl ?_
    refine R_goto dL_size_9 rfl ?_
    refine R_iconst dL_size_15 (v := 0) rfl ?_
    exact EW_iret dL_size_16 rfl rfl rfl
theorem wwL_look : WW miL_look yL_look 4 := ⟨wd980, wd0, ⟨by decide +kernel, by decide +kernel, by decide +kernel⟩, by decide +kernel, rfl, msL_look⟩
def f_L_look (v1 v2 : Int) (M : Mem) : Option (Int × Mem) := (f_X9_look v1 v2 M).bind fun p => if p.1 = 0 then (some (0, up p.2.2 113 0 p.2.1)) else if p.1 = 1 then some (1, p.2.2) else if p.1 = 2 then some (2, p.2.2) else none
set_option maxRecDepth 20000 in
theorem ct_L_look {G : Gl} (v1 v2 : Int) (M : Mem) {res : Int × Mem} (hf : f_L_look v1 v2 M = some res) : CtW G miL_look yL_look 8 2 12 [aR 0, aI v1, aI v2, aR 113] M (some (aI res.1)) res.2 := by
  refine CtW.of (L := [some (aR 0), some (aI v1), some (aI v2), some (aR 113), none]) wwL_look trivial nle ⟨rfl, rfl, rfl, rfl, trivial⟩ ?_
  unfold f_L_look at hf
  obtain ⟨p, hp, hf⟩ := bdE hf
  refine R_aload_n dL_look_0 rfl rfl ?_
  refine R_iconst dL_look_1 (v := 0) rfl ?_
  refine R_aload_n dL_look_2 rfl rfl ?_
  refine R_iload_n dL_look_3 rfl rfl ?_
  refine R_iload_n dL_look_4 rfl rfl ?_
  refine R_callVXc (As := [aI v1, aI v2]) (st := [aI 0, aR 113]) dL_look_5 (ct_X9_look _ _ _ hp) mwX9_look mvX9_look wd982 cl9 o_0 rfl rfl ⟨nle, nle, nle, nle⟩ nle rfl (fun hx => ?_) (fun hx => ?_)
  · replace hf := inegE hf hx
    by_cases h0 : p.1 = 1
    · replace hf := iposE hf h0
      cases hf
      refine ⟨13, by rw [h0]; exact ⟨[], [(0, 10, 17, 13)], 0, 10, 25, rfl, (fun z hz => nomatch hz), by decide, by decide, by decide, wd981, wd993⟩, fun q => ?_⟩
      refine R_astoreV dL_look_13 (by decide) rfl ?_
      refine R_iconst dL_look_15 (v := 1) rfl ?_
      exact EW_iret dL_look_16 rfl rfl rfl
    replace hf := inegE hf h0
    by_cases h1 : p.1 = 2
    · replace hf := iposE hf h1
      cases hf
      refine ⟨17, by rw [h1]; exact ⟨[(0, 10, 13, 25)], [], 0, 10, 13, rfl, (fun z hz => by cases List.mem_singleton.mp hz; exact ⟨by decide, "java/lang/IndexOutOfBoundsException", wd981, by decide +kernel⟩), by decide, by decide, by decide, wd705, wd716⟩, fun q => ?_⟩
      refine R_astoreV dL_look_17 (by decide) rfl ?_
      refine R_iconst dL_look_19 (v := 2) rfl ?_
      exact EW_iret dL_look_20 rfl rfl rfl
    replace hf := inegE hf h1
    cases hf
  · replace hf := iposE hf hx
    cases hf
    refine R_i2l dL_look_8 (fun hin => ?_)
    refine R_lastore dL_look_9 a_113 (by decide) (by decide) hin rfl ?_
    refine R_goto dL_look_10 rfl ?_
    refine R_iconst dL_look_21 (v := 0) rfl ?_
    exact EW_iret dL_look_22 rfl rfl rfl
theorem wwL_around : WW miL_around yL_around 4 := ⟨wd1019, wd0, ⟨by decide +kernel, by decide +kernel, by decide +kernel⟩, by decide +kernel, rfl, msL_around⟩
def f_L_around (v1 v2 : Int) (M : Mem) : Option (Int × Mem) := (f_X9_around v1 v2 M).bind fun p => if p.1 = 0 then (some (0, up p.2.2 113 0 p.2.1)) else if p.1 = 1 then some (1, p.2.2) else none
set_option maxRecDepth 20000 in
theorem ct_L_around {G : Gl} (v1 v2 : Int) (M : Mem) {res : Int × Mem} (hf : f_L_around v1 v2 M = some res) : CtW G miL_around yL_around 8 1 6 [aR 0, aI v1, aI v2, aR 113] M (some (aI res.1)) res.2 := by
  refine CtW.of (L := [some (aR 0), some (aI v1), some (aI v2), some (aR 113), none]) wwL_around trivial nle ⟨rfl, rfl, rfl, rfl, trivial⟩ ?_
  unfold f_L_around at hf
  obtain ⟨p, hp, hf⟩ := bdE hf
  refine R_aload_n dL_around_0 rfl rfl ?_
  refine R_iconst dL_around_1 (v := 0) rfl ?_
  refine R_aload_n dL_around_2 rfl rfl ?_
  refine R_iload_n dL_around_3 rfl rfl ?_
  refine R_iload_n dL_around_4 rfl rfl ?_
  refine R_callVXc (As := [aI v1, aI v2]) (st := [aI 0, aR 113]) dL_around_5 (ct_X9_around _ _ _ hp) mwX9_around mvX9_around wd1020 cl9 o_0 rfl rfl ⟨nle, nle, nle, nle⟩ nle rfl (fun hx => ?_) (fun hx => ?_)
  · replace hf := inegE hf hx
    by_cases h0 : p.1 = 1
    · replace hf := iposE hf h0
      cases hf
      refine ⟨13, by rw [h0]; exact ⟨[], [], 0, 10, 25, rfl, (fun z hz => nomatch hz), by decide, by decide, by decide, wd981, wd993⟩, fun q => ?_⟩
      refine R_astoreV dL_around_13 (by decide) rfl ?_
      refine R_iconst dL_around_15 (v := 1) rfl ?_
      exact EW_iret dL_around_16 rfl rfl rfl
    replace hf := inegE hf h0
    cases hf
  · replace hf := iposE hf hx
    cases hf
    refine R_i2l dL_around_8 (fun hin => ?_)
    refine R_lastore dL_around_9 a_113 (by decide) (by decide) hin rfl ?_
    refine R_goto dL_around_10 rfl ?_
    refine R_iconst dL_around_17 (v := 0) rfl ?_
    exact EW_iret dL_around_18 rfl rfl rfl
theorem wwL_within : WW miL_within yL_within 4 := ⟨wd1030, wd0, ⟨by decide +kernel, by decide +kernel, by decide +kernel⟩, by decide +kernel, rfl, msL_within⟩
def f_L_within (v1 v2 : Int) (M : Mem) : Option (Int × Mem) := (f_X9_within v1 v2 M).bind fun p => if p.1 = 0 then (some (0, up p.2.2 113 0 p.2.1)) else if p.1 = 1 then some (1, p.2.2) else if p.1 = 3 then some (2, p.2.2) else none
set_option maxRecDepth 20000 in
theorem ct_L_within {G : Gl} (v1 v2 : Int) (M : Mem) {res : Int × Mem} (hf : f_L_within v1 v2 M = some res) : CtW G miL_within yL_within 8 2 12 [aR 0, aI v1, aI v2, aR 113] M (some (aI res.1)) res.2 := by
  refine CtW.of (L := [some (aR 0), some (aI v1), some (aI v2), some (aR 113), none]) wwL_within trivial nle ⟨rfl, rfl, rfl, rfl, trivial⟩ ?_
  unfold f_L_within at hf
  obtain ⟨p, hp, hf⟩ := bdE hf
  refine R_aload_n dL_within_0 rfl rfl ?_
  refine R_iconst dL_within_1 (v := 0) rfl ?_
  refine R_aload_n dL_within_2 rfl rfl ?_
  refine R_iload_n dL_within_3 rfl rfl ?_
  refine R_iload_n dL_within_4 rfl rfl ?_
  refine R_callVXc (As := [aI v1, aI v2]) (st := [aI 0, aR 113]) dL_within_5 (ct_X9_within _ _ _ hp) mwX9_within mvX9_within wd1032 cl9 o_0 rfl rfl ⟨nle, nle, nle, nle⟩ nle rfl (fun hx => ?_) (fun hx => ?_)
  · replace hf := inegE hf hx
    by_cases h0 : p.1 = 1
    · replace hf := iposE hf h0
      cases hf
      refine ⟨13, by rw [h0]; exact ⟨[], [(0, 10, 17, 33)], 0, 10, 25, rfl, (fun z hz => nomatch hz), by decide, by decide, by decide, wd981, wd993⟩, fun q => ?_⟩
      refine R_astoreV dL_within_13 (by decide) rfl ?_
      refine R_iconst dL_within_15 (v := 1) rfl ?_
      exact EW_iret dL_within_16 rfl rfl rfl
    replace hf := inegE hf h0
    by_cases h1 : p.1 = 3
    · replace hf := iposE hf h1
      cases hf
      refine ⟨17, by rw [h1]; exact ⟨[(0, 10, 13, 25)], [], 0, 10, 33, rfl, (fun z hz => by cases List.mem_singleton.mp hz; exact ⟨by decide, "java/lang/IndexOutOfBoundsException", wd981, by decide +kernel⟩), by decide, by decide, by decide, wd1031, wd1042⟩, fun q => ?_⟩
      refine R_astoreV dL_within_17 (by decide) rfl ?_
      refine R_iconst dL_within_19 (v := 2) rfl ?_
      exact EW_iret dL_within_20 rfl rfl rfl
    replace hf := inegE hf h1
    cases hf
  · replace hf := iposE hf hx
    cases hf
    refine R_i2l dL_within_8 (fun hin => ?_)
    refine R_lastore dL_within_9 a_113 (by decide) (by decide) hin rfl ?_
    refine R_goto dL_within_10 rfl ?_
    refine R_iconst dL_within_21 (v := 0) rfl ?_
    exact EW_iret dL_within_22 rfl rfl rfl
theorem wwL_beside : WW miL_beside yL_beside 4 := ⟨wd1066, wd0, ⟨by decide +kernel, by decide +kernel, by decide +kernel⟩, by decide +kernel, rfl, msL_beside⟩
def f_L_beside (v1 v2 : Int) (M : Mem) : Option (Int × Mem) := (f_X9_beside v1 v2 M).bind fun p => if p.1 = 0 then (some (0, up p.2.2 113 0 p.2.1)) else if p.1 = 1 then some (1, p.2.2) else if p.1 = 3 then some (2, p.2.2) else none
set_option maxRecDepth 20000 in
theorem ct_L_beside {G : Gl} (v1 v2 : Int) (M : Mem) {res : Int × Mem} (hf : f_L_beside v1 v2 M = some res) : CtW G miL_beside yL_beside 8 2 12 [aR 0, aI v1, aI v2, aR 113] M (some (aI res.1)) res.2 := by
  refine CtW.of (L := [some (aR 0), some (aI v1), some (aI v2), some (aR 113), none]) wwL_beside trivial nle ⟨rfl, rfl, rfl, rfl, trivial⟩ ?_
  unfold f_L_beside at hf
  obtain ⟨p, hp, hf⟩ := bdE hf
  refine R_aload_n dL_beside_0 rfl rfl ?_
  refine R_iconst dL_beside_1 (v := 0) rfl ?_
  refine R_aload_n dL_beside_2 rfl rfl ?_
  refine R_iload_n dL_beside_3 rfl rfl ?_
  refine R_iload_n dL_beside_4 rfl rfl ?_
  refine R_callVXc (As := [aI v1, aI v2]) (st := [aI 0, aR 113]) dL_beside_5 (ct_X9_beside _ _ _ hp) mwX9_beside mvX9_beside wd1067 cl9 o_0 rfl rfl ⟨nle, nle, nle, nle⟩ nle rfl (fun hx => ?_) (fun hx => ?_)
  · replace hf := inegE hf hx
    by_cases h0 : p.1 = 1
    · replace hf := iposE hf h0
      cases hf
      refine ⟨13, by rw [h0]; exact ⟨[], [(0, 10, 17, 33)], 0, 10, 25, rfl, (fun z hz => nomatch hz), by decide, by decide, by decide, wd981, wd993⟩, fun q => ?_⟩
      refine R_astoreV dL_beside_13 (by decide) rfl ?_
      refine R_iconst dL_beside_15 (v := 1) rfl ?_
      exact EW_iret dL_beside_16 rfl rfl rfl
    replace hf := inegE hf h0
    by_cases h1 : p.1 = 3
    · replace hf := iposE hf h1
      cases hf
      refine ⟨17, by rw [h1]; exact ⟨[(0, 10, 13, 25)], [], 0, 10, 33, rfl, (fun z hz => by cases List.mem_singleton.mp hz; exact ⟨by decide, "java/lang/IndexOutOfBoundsException", wd981, by decide +kernel⟩), by decide, by decide, by decide, wd1031, wd1042⟩, fun q => ?_⟩
      refine R_astoreV dL_beside_17 (by decide) rfl ?_
      refine R_iconst dL_beside_19 (v := 2) rfl ?_
      exact EW_iret dL_beside_20 rfl rfl rfl
    replace hf := inegE hf h1
    cases hf
  · replace hf := iposE hf hx
    cases hf
    refine R_i2l dL_beside_8 (fun hin => ?_)
    refine R_lastore dL_beside_9 a_113 (by decide) (by decide) hin rfl ?_
    refine R_goto dL_beside_10 rfl ?_
    refine R_iconst dL_beside_21 (v := 0) rfl ?_
    exact EW_iret dL_beside_22 rfl rfl rfl
theorem wwL_count : WW miL_count yL_count 4 := ⟨wd1081, wd0, ⟨by decide +kernel, by decide +kernel, by decide +kernel⟩, by decide +kernel, rfl, msL_count⟩
def f_L_count (v1 v2 : Int) (M : Mem) : Option (Int × Mem) := (f_X9_count v1 v2 M).bind fun p => if p.1 = 0 then (some (0, up p.2.2 113 0 p.2.1)) else if p.1 = 1 then some (1, p.2.2) else if p.1 = 2 then some (2, p.2.2) else none
set_option maxRecDepth 20000 in
theorem ct_L_count {G : Gl} (v1 v2 : Int) (M : Mem) {res : Int × Mem} (hf : f_L_count v1 v2 M = some res) : CtW G miL_count yL_count 8 2 12 [aR 0, aI v1, aI v2, aR 113] M (some (aI res.1)) res.2 := by
  refine CtW.of (L := [some (aR 0), some (aI v1), some (aI v2), some (aR 113), none]) wwL_count trivial nle ⟨rfl, rfl, rfl, rfl, trivial⟩ ?_
  unfold f_L_count at hf
  obtain ⟨p, hp, hf⟩ := bdE hf
  refine R_aload_n dL_count_0 rfl rfl ?_
  refine R_iconst dL_count_1 (v := 0) rfl ?_
  refine R_aload_n dL_count_2 rfl rfl ?_
  refine R_iload_n dL_count_3 rfl rfl ?_
  refine R_iload_n dL_count_4 rfl rfl ?_
  refine R_callVXc (As := [aI v1, aI v2]) (st := [aI 0, aR 113]) dL_count_5 (ct_X9_count _ _ _ hp) mwX9_count mvX9_count wd1082 cl9 o_0 rfl rfl ⟨nle, nle, nle, nle⟩ nle rfl (fun hx => ?_) (fun hx => ?_)
  · replace hf := inegE hf hx
    by_cases h0 : p.1 = 1
    · replace hf := iposE hf h0
      cases hf
      refine ⟨13, by rw [h0]; exact ⟨[], [(0, 10, 17, 13)], 0, 10, 25, rfl, (fun z hz => nomatch hz), by decide, by decide, by decide, wd981, wd993⟩, fun q => ?_⟩
      refine R_astoreV dL_count_13 (by decide) rfl ?_
      refine R_iconst dL_count_15 (v := 1) rfl ?_
      exact EW_iret dL_count_16 rfl rfl rfl
    replace hf := inegE hf h0
    by_cases h1 : p.1 = 2
    · replace hf := iposE hf h1
      cases hf
      refine ⟨17, by rw [h1]; exact ⟨[(0, 10, 13, 25)], [], 0, 10, 13, rfl, (fun z hz => by cases List.mem_singleton.mp hz; exact ⟨by decide, "java/lang/IndexOutOfBoundsException", wd981, by decide +kernel⟩), by decide, by decide, by decide, wd705, wd716⟩, fun q => ?_⟩
      refine R_astoreV dL_count_17 (by decide) rfl ?_
      refine R_iconst dL_count_19 (v := 2) rfl ?_
      exact EW_iret dL_count_20 rfl rfl rfl
    replace hf := inegE hf h1
    cases hf
  · replace hf := iposE hf hx
    cases hf
    refine R_i2l dL_count_8 (fun hin => ?_)
    refine R_lastore dL_count_9 a_113 (by decide) (by decide) hin rfl ?_
    refine R_goto dL_count_10 rfl ?_
    refine R_iconst dL_count_21 (v := 0) rfl ?_
    exact EW_iret dL_count_22 rfl rfl rfl
theorem wwL_repairStep : WW miL_repairStep yL_repairStep 4 := ⟨wd1099, wd0, ⟨by decide +kernel, by decide +kernel, by decide +kernel⟩, by decide +kernel, rfl, msL_repairStep⟩
def f_L_repairStep (v1 v2 : Int) (M : Mem) : Option (Int × Mem) := (f_X9_repairStep v1 v2 M).bind fun p => if p.1 = 0 then (some (0, up p.2.2 113 0 p.2.1)) else if p.1 = 3 then some (1, p.2.2) else if p.1 = 2 then some (2, p.2.2) else none
set_option maxRecDepth 20000 in
theorem ct_L_repairStep {G : Gl} (v1 v2 : Int) (M : Mem) {res : Int × Mem} (hf : f_L_repairStep v1 v2 M = some res) : CtW G miL_repairStep yL_repairStep 7 1 6 [aR 0, aI v1, aI v2, aR 113] M (some (aI res.1)) res.2 := by
  refine CtW.of (L := [some (aR 0), some (aI v1), some (aI v2), some (aR 113), none]) wwL_repairStep trivial nle ⟨rfl, rfl, rfl, rfl, trivial⟩ ?_
  unfold f_L_repairStep at hf
  obtain ⟨p, hp, hf⟩ := bdE hf
  refine R_aload_n dL_repairStep_0 rfl rfl ?_
  refine R_iconst dL_repairStep_1 (v := 0) rfl ?_
  refine R_aload_n dL_repairStep_2 rfl rfl ?_
  refine R_iload_n dL_repairStep_3 rfl rfl ?_
  refine R_iload_n dL_repairStep_4 rfl rfl ?_
  refine R_callVXc (As := [aI v1, aI v2]) (st := [aI 0, aR 113]) dL_repairStep_5 (ct_X9_repairStep _ _ _ hp) mwX9_repairStep mvX9_repairStep wd1100 cl9 o_0 rfl rfl ⟨nle, nle, nle, nle⟩ nle rfl (fun hx => ?_) (fun hx => ?_)
  · replace hf := inegE hf hx
    by_cases h0 : p.1 = 3
    · replace hf := iposE hf h0
      cases hf
      refine ⟨13, by rw [h0]; exact ⟨[], [(0, 10, 17, 13)], 0, 10, 33, rfl, (fun z hz => nomatch hz), by decide, by decide, by decide, wd1031, wd1042⟩, fun q => ?_⟩
      refine R_astoreV dL_repairStep_13 (by decide) rfl ?_
      refine R_iconst dL_repairStep_15 (v := 1) rfl ?_
      exact EW_iret dL_repairStep_16 rfl rfl rfl
    replace hf := inegE hf h0
    by_cases h1 : p.1 = 2
    · replace hf := iposE hf h1
      cases hf
      refine ⟨17, by rw [h1]; exact ⟨[(0, 10, 13, 33)], [], 0, 10, 13, rfl, (fun z hz => by cases List.mem_singleton.mp hz; exact ⟨by decide, "java/util/NoSuchElementException", wd1031, by decide +kernel⟩), by decide, by decide, by decide, wd705, wd716⟩, fun q => ?_⟩
      refine R_astoreV dL_repairStep_17 (by decide) rfl ?_
      refine R_iconst dL_repairStep_19 (v := 2) rfl ?_
      exact EW_iret dL_repairStep_20 rfl rfl rfl
    replace hf := inegE hf h1
    cases hf
  · replace hf := iposE hf hx
    cases hf
    refine R_i2l dL_repairStep_8 (fun hin => ?_)
    refine R_lastore dL_repairStep_9 a_113 (by decide) (by decide) hin rfl ?_
    refine R_goto dL_repairStep_10 rfl ?_
    refine R_iconst dL_repairStep_21 (v := 0) rfl ?_
    exact EW_iret dL_repairStep_22 rfl rfl rfl
theorem wwL_costWithout : WW miL_costWithout yL_costWithout 3 := ⟨wd1108, wd0, ⟨by decide +kernel, by decide +kernel, by decide +kernel⟩, by decide +kernel, rfl, msL_costWithout⟩
def f_L_costWithout (v1 : Int) (M : Mem) : Option (Int × Mem) := (f_X9_costWithout v1 M).bind fun p => if p.1 = 0 then (some (0, up p.2.2 113 0 p.2.1)) else if p.1 = 1 then some (1, p.2.2) else none
set_option maxRecDepth 20000 in
theorem ct_L_costWithout {G : Gl} (v1 : Int) (M : Mem) {res : Int × Mem} (hf : f_L_costWithout v1 M = some res) : CtW G miL_costWithout yL_costWithout 8 1 6 [aR 0, aI v1, aR 113] M (some (aI res.1)) res.2 := by
  refine CtW.of (L := [some (aR 0), some (aI v1), some (aR 113), none]) wwL_costWithout trivial nle ⟨rfl, rfl, rfl, trivial⟩ ?_
  unfold f_L_costWithout at hf
  obtain ⟨p, hp, hf⟩ := bdE hf
  refine R_aload_n dL_costWithout_0 rfl rfl ?_
  refine R_iconst dL_costWithout_1 (v := 0) rfl ?_
  refine R_aload_n dL_costWithout_2 rfl rfl ?_
  refine R_iload_n dL_costWithout_3 rfl rfl ?_
  refine R_callVXc (As := [aI v1]) (st := [aI 0, aR 113]) dL_costWithout_4 (ct_X9_costWithout _ _ hp) mwX9_costWithout mvX9_costWithout wd1109 cl9 o_0 rfl rfl ⟨nle, nle, nle, nle⟩ nle rfl (fun hx => ?_) (fun hx => ?_)
  · replace hf := inegE hf hx
    by_cases h0 : p.1 = 1
    · replace hf := iposE hf h0
      cases hf
      refine ⟨12, by rw [h0]; exact ⟨[], [], 0, 9, 25, rfl, (fun z hz => nomatch hz), by decide, by decide, by decide, wd981, wd993⟩, fun q => ?_⟩
      refine R_astoreV_n dL_costWithout_12 rfl (by decide) rfl ?_
      refine R_iconst dL_costWithout_13 (v := 1) rfl ?_
      exact EW_iret dL_costWithout_14 rfl rfl rfl
    replace hf := inegE hf h0
    cases hf
  · replace hf := iposE hf hx
    cases hf
    refine R_i2l dL_costWithout_7 (fun hin => ?_)
    refine R_lastore dL_costWithout_8 a_113 (by decide) (by decide) hin rfl ?_
    refine R_goto dL_costWithout_9 rfl ?_
    refine R_iconst dL_costWithout_15 (v := 0) rfl ?_
    exact EW_iret dL_costWithout_16 rfl rfl rfl
theorem wwL_markAt : WW miL_markAt yL_markAt 3 := ⟨wd1115, wd0, ⟨by decide +kernel, by decide +kernel, by decide +kernel⟩, by decide +kernel, rfl, msL_markAt⟩
def f_L_markAt (v1 : Int) (M : Mem) : Option (Int × Mem) := (f_X9_markAt v1 M).bind fun p => if p.1 = 0 then (some (0, up p.2.2 113 0 p.2.1)) else if p.1 = 1 then some (1, p.2.2) else none
set_option maxRecDepth 20000 in
theorem ct_L_markAt {G : Gl} (v1 : Int) (M : Mem) {res : Int × Mem} (hf : f_L_markAt v1 M = some res) : CtW G miL_markAt yL_markAt 8 1 6 [aR 0, aI v1, aR 113] M (some (aI res.1)) res.2 := by
  refine CtW.of (L := [some (aR 0), some (aI v1), some (aR 113), none]) wwL_markAt trivial nle ⟨rfl, rfl, rfl, trivial⟩ ?_
  unfold f_L_markAt at hf
  obtain ⟨p, hp, hf⟩ := bdE hf
  refine R_aload_n dL_markAt_0 rfl rfl ?_
  refine R_iconst dL_markAt_1 (v := 0) rfl ?_
  refine R_aload_n dL_markAt_2 rfl rfl ?_
  refine R_iload_n dL_markAt_3 rfl rfl ?_
  refine R_callVXc (As := [aI v1]) (st := [aI 0, aR 113]) dL_markAt_4 (ct_X9_markAt _ _ hp) mwX9_markAt mvX9_markAt wd1116 cl9 o_0 rfl rfl ⟨nle, nle, nle, nle⟩ nle rfl (fun hx => ?_) (fun hx => ?_)
  · replace hf := inegE hf hx
    by_cases h0 : p.1 = 1
    · replace hf := iposE hf h0
      cases hf
      refine ⟨12, by rw [h0]; exact ⟨[], [], 0, 9, 25, rfl, (fun z hz => nomatch hz), by decide, by decide, by decide, wd981, wd993⟩, fun q => ?_⟩
      refine R_astoreV_n dL_markAt_12 rfl (by decide) rfl ?_
      refine R_iconst dL_markAt_13 (v := 1) rfl ?_
      exact EW_iret dL_markAt_14 rfl rfl rfl
    replace hf := inegE hf h0
    cases hf
  · replace hf := iposE hf hx
    cases hf
    refine R_i2l dL_markAt_7 (fun hin => ?_)
    refine R_lastore dL_markAt_8 a_113 (by decide) (by decide) hin rfl ?_
    refine R_goto dL_markAt_9 rfl ?_
    refine R_iconst dL_markAt_15 (v := 0) rfl ?_
    exact EW_iret dL_markAt_16 rfl rfl rfl
theorem wwL_insert : WW miL_insert yL_insert 4 := ⟨wd1131, wd0, ⟨by decide +kernel, by decide +kernel, by decide +kernel⟩, by decide +kernel, rfl, msL_insert⟩
def f_L_insert (v1 v2 : Int) (M : Mem) : Option (Int × Mem) := (f_X9_insert v1 v2 M).bind fun p => if p.1 = 0 then (some (0, up p.2.2 113 0 p.2.1)) else if p.1 = 1 then some (1, p.2.2) else if p.1 = 2 then some (2, p.2.2) else none
set_option maxRecDepth 20000 in
theorem ct_L_insert {G : Gl} (v1 v2 : Int) (M : Mem) {res : Int × Mem} (hf : f_L_insert v1 v2 M = some res) : CtW G miL_insert yL_insert 8 2 12 [aR 0, aI v1, aI v2, aR 113] M (some (aI res.1)) res.2 := by
  refine CtW.of (L := [some (aR 0), some (aI v1), some (aI v2), some (aR 113), none]) wwL_insert trivial nle ⟨rfl, rfl, rfl, rfl, trivial⟩ ?_
  unfold f_L_insert at hf
  obtain ⟨p, hp, hf⟩ := bdE hf
  refine R_aload_n dL_insert_0 rfl rfl ?_
  refine R_iconst dL_insert_1 (v := 0) rfl ?_
  refine R_aload_n dL_insert_2 rfl rfl ?_
  refine R_iload_n dL_insert_3 rfl rfl ?_
  refine R_iload_n dL_insert_4 rfl rfl ?_
  refine R_callVXc (As := [aI v1, aI v2]) (st := [aI 0, aR 113]) dL_insert_5 (ct_X9_insert _ _ _ hp) mwX9_insert mvX9_insert wd1132 cl9 o_0 rfl rfl ⟨nle, nle, nle, nle⟩ nle rfl (fun hx => ?_) (fun hx => ?_)
  · replace hf := inegE hf hx
    by_cases h0 : p.1 = 1
    · replace hf := iposE hf h0
      cases hf
      refine ⟨13, by rw [h0]; exact ⟨[], [(0, 10, 17, 13)], 0, 10, 25, rfl, (fun z hz => nomatch hz), by decide, by decide, by decide, wd981, wd993⟩, fun q => ?_⟩
      refine R_astoreV dL_insert_13 (by decide) rfl ?_
      refine R_iconst dL_insert_15 (v := 1) rfl ?_
      exact EW_iret dL_insert_16 rfl rfl rfl
    replace hf := inegE hf h0
    by_cases h1 : p.1 = 2
    · replace hf := iposE hf h1
      cases hf
      refine ⟨17, by rw [h1]; exact ⟨[(0, 10, 13, 25)], [], 0, 10, 13, rfl, (fun z hz => by cases List.mem_singleton.mp hz; exact ⟨by decide, "java/lang/IndexOutOfBoundsException", wd981, by decide +kernel⟩), by decide, by decide, by decide, wd705, wd716⟩, fun q => ?_⟩
      refine R_astoreV dL_insert_17 (by decide) rfl ?_
      refine R_iconst dL_insert_19 (v := 2) rfl ?_
      exact EW_iret dL_insert_20 rfl rfl rfl
    replace hf := inegE hf h1
    cases hf
  · replace hf := iposE hf hx
    cases hf
    refine R_i2l dL_insert_8 (fun hin => ?_)
    refine R_lastore dL_insert_9 a_113 (by decide) (by decide) hin rfl ?_
    refine R_goto dL_insert_10 rfl ?_
    refine R_iconst dL_insert_21 (v := 0) rfl ?_
    exact EW_iret dL_insert_22 rfl rfl rfl
theorem wwL_erase : WW miL_erase yL_erase 4 := ⟨wd1148, wd0, ⟨by decide +kernel, by decide +kernel, by decide +kernel⟩, by decide +kernel, rfl, msL_erase⟩
def f_L_erase (v1 v2 : Int) (M : Mem) : Option (Int × Mem) := (f_X9_erase v1 v2 M).bind fun p => if p.1 = 0 then (some (0, up p.2.2 113 0 p.2.1)) else if p.1 = 1 then some (1, p.2.2) else none
set_option maxRecDepth 20000 in
theorem ct_L_erase {G : Gl} (v1 v2 : Int) (M : Mem) {res : Int × Mem} (hf : f_L_erase v1 v2 M = some res) : CtW G miL_erase yL_erase 8 1 6 [aR 0, aI v1, aI v2, aR 113] M (some (aI res.1)) res.2 := by
  refine CtW.of (L := [some (aR 0), some (aI v1), some (aI v2), some (aR 113), none]) wwL_erase trivial nle ⟨rfl, rfl, rfl, rfl, trivial⟩ ?_
  unfold f_L_erase at hf
  obtain ⟨p, hp, hf⟩ := bdE hf
  refine R_aload_n dL_erase_0 rfl rfl ?_
  refine R_iconst dL_erase_1 (v := 0) rfl ?_
  refine R_aload_n dL_erase_2 rfl rfl ?_
  refine R_iload_n dL_erase_3 rfl rfl ?_
  refine R_iload_n dL_erase_4 rfl rfl ?_
  refine R_callVXc (As := [aI v1, aI v2]) (st := [aI 0, aR 113]) dL_erase_5 (ct_X9_erase _ _ _ hp) mwX9_erase mvX9_erase wd1149 cl9 o_0 rfl rfl ⟨nle, nle, nle, nle⟩ nle rfl (fun hx => ?_) (fun hx => ?_)
  · replace hf := inegE hf hx
    by_cases h0 : p.1 = 1
    · replace hf := iposE hf h0
      cases hf
      refine ⟨13, by rw [h0]; exact ⟨[], [], 0, 10, 25, rfl, (fun z hz => nomatch hz), by decide, by decide, by decide, wd981, wd993⟩, fun q => ?_⟩
      refine R_astoreV dL_erase_13 (by decide) rfl ?_
      refine R_iconst dL_erase_15 (v := 1) rfl ?_
      exact EW_iret dL_erase_16 rfl rfl rfl
    replace hf := inegE hf h0
    cases hf
  · replace hf := iposE hf hx
    cases hf
    refine R_i2l dL_erase_8 (fun hin => ?_)
    refine R_lastore dL_erase_9 a_113 (by decide) (by decide) hin rfl ?_
    refine R_goto dL_erase_10 rfl ?_
    refine R_iconst dL_erase_17 (v := 0) rfl ?_
    exact EW_iret dL_erase_18 rfl rfl rfl
theorem wwL_wrap : WW miL_wrap yL_wrap 5 := ⟨wd1161, wd0, ⟨by decide +kernel, by decide +kernel, by decide +kernel⟩, by decide +kernel, rfl, msL_wrap⟩
def f_L_wrap (v1 v2 v3 : Int) (M : Mem) : Option (Int × Mem) := (f_X9_wrap v1 v2 v3 M).bind fun p => if p.1 = 0 then (some (0, up p.2.2 113 0 p.2.1)) else if p.1 = 1 then some (1, p.2.2) else none
set_option maxRecDepth 20000 in
theorem ct_L_wrap {G : Gl} (v1 v2 v3 : Int) (M : Mem) {res : Int × Mem} (hf : f_L_wrap v1 v2 v3 M = some res) : CtW G miL_wrap yL_wrap 8 2 12 [aR 0, aI v1, aI v2, aI v3, aR 113] M (some (aI res.1)) res.2 := by
  refine CtW.of (L := [some (aR 0), some (aI v1), some (aI v2), some (aI v3), some (aR 113), none]) wwL_wrap trivial nle ⟨rfl, rfl, rfl, rfl, rfl, trivial⟩ ?_
  unfold f_L_wrap at hf
  obtain ⟨p, hp, hf⟩ := bdE hf
  refine R_aload dL_wrap_0 rfl ?_
  refine R_iconst dL_wrap_2 (v := 0) rfl ?_
  refine R_aload_n dL_wrap_3 rfl rfl ?_
  refine R_iload_n dL_wrap_4 rfl rfl ?_
  refine R_iload_n dL_wrap_5 rfl rfl ?_
  refine R_iload_n dL_wrap_6 rfl rfl ?_
  refine R_callVXc (As := [aI v1, aI v2, aI v3]) (st := [aI 0, aR 113]) dL_wrap_7 (ct_X9_wrap _ _ _ _ hp) mwX9_wrap mvX9_wrap wd1162 cl9 o_0 rfl rfl ⟨nle, nle, nle, nle⟩ nle rfl (fun hx => ?_) (fun hx => ?_)
  · replace hf := inegE hf hx
    by_cases h0 : p.1 = 1
    · replace hf := iposE hf h0
      cases hf
      refine ⟨15, by rw [h0]; exact ⟨[], [], 0, 12, 25, rfl, (fun z hz => nomatch hz), by decide, by decide, by decide, wd981, wd993⟩, fun q => ?_⟩
      refine R_astoreV dL_wrap_15 (by decide) rfl ?_
      refine R_iconst dL_wrap_17 (v := 1) rfl ?_
      exact EW_iret dL_wrap_18 rfl rfl rfl
    replace hf := inegE hf h0
    cases hf
  · replace hf := iposE hf hx
    cases hf
    refine R_i2l dL_wrap_10 (fun hin => ?_)
    refine R_lastore dL_wrap_11 a_113 (by decide) (by decide) hin rfl ?_
    refine R_goto dL_wrap_12 rfl ?_
    refine R_iconst dL_wrap_19 (v := 0) rfl ?_
    exact EW_iret dL_wrap_20 rfl rfl rfl
theorem wwL_unwrap : WW miL_unwrap yL_unwrap 3 := ⟨wd1172, wd0, ⟨by decide +kernel, by decide +kernel, by decide +kernel⟩, by decide +kernel, rfl, msL_unwrap⟩
def f_L_unwrap (v1 : Int) (M : Mem) : Option (Int × Mem) := (f_X9_unwrap v1 M).bind fun p => if p.1 = 0 then (some (0, up p.2.2 113 0 p.2.1)) else if p.1 = 1 then some (1, p.2.2) else if p.1 = 3 then some (2, p.2.2) else none
set_option maxRecDepth 20000 in
theorem ct_L_unwrap {G : Gl} (v1 : Int) (M : Mem) {res : Int × Mem} (hf : f_L_unwrap v1 M = some res) : CtW G miL_unwrap yL_unwrap 8 2 12 [aR 0, aI v1, aR 113] M (some (aI res.1)) res.2 := by
  refine CtW.of (L := [some (aR 0), some (aI v1), some (aR 113), none]) wwL_unwrap trivial nle ⟨rfl, rfl, rfl, trivial⟩ ?_
  unfold f_L_unwrap at hf
  obtain ⟨p, hp, hf⟩ := bdE hf
  refine R_aload_n dL_unwrap_0 rfl rfl ?_
  refine R_iconst dL_unwrap_1 (v := 0) rfl ?_
  refine R_aload_n dL_unwrap_2 rfl rfl ?_
  refine R_iload_n dL_unwrap_3 rfl rfl ?_
  refine R_callVXc (As := [aI v1]) (st := [aI 0, aR 113]) dL_unwrap_4 (ct_X9_unwrap _ _ hp) mwX9_unwrap mvX9_unwrap wd1173 cl9 o_0 rfl rfl ⟨nle, nle, nle, nle⟩ nle rfl (fun hx => ?_) (fun hx => ?_)
  · replace hf := inegE hf hx
    by_cases h0 : p.1 = 1
    · replace hf := iposE hf h0
      cases hf
      refine ⟨12, by rw [h0]; exact ⟨[], [(0, 9, 15, 33)], 0, 9, 25, rfl, (fun z hz => nomatch hz), by decide, by decide, by decide, wd981, wd993⟩, fun q => ?_⟩
      refine R_astoreV_n dL_unwrap_12 rfl (by decide) rfl ?_
      refine R_iconst dL_unwrap_13 (v := 1) rfl ?_
      exact EW_iret dL_unwrap_14 rfl rfl rfl
    replace hf := inegE hf h0
    by_cases h1 : p.1 = 3
    · replace hf := iposE hf h1
      cases hf
      refine ⟨15, by rw [h1]; exact ⟨[(0, 9, 12, 25)], [], 0, 9, 33, rfl, (fun z hz => by cases List.mem_singleton.mp hz; exact ⟨by decide, "java/lang/IndexOutOfBoundsException", wd981, by decide +kernel⟩), by decide, by decide, by decide, wd1031, wd1042⟩, fun q => ?_⟩
      refine R_astoreV_n dL_unwrap_15 rfl (by decide) rfl ?_
      refine R_iconst dL_unwrap_16 (v := 2) rfl ?_
      exact EW_iret dL_unwrap_17 rfl rfl rfl
    replace hf := inegE hf h1
    cases hf
  · replace hf := iposE hf hx
    cases hf
    refine R_i2l dL_unwrap_7 (fun hin => ?_)
    refine R_lastore dL_unwrap_8 a_113 (by decide) (by decide) hin rfl ?_
    refine R_goto dL_unwrap_9 rfl ?_
    refine R_iconst dL_unwrap_18 (v := 0) rfl ?_
    exact EW_iret dL_unwrap_19 rfl rfl rfl
theorem wwL_mark : WW miL_mark yL_mark 3 := ⟨wd1179, wd0, ⟨by decide +kernel, by decide +kernel, by decide +kernel⟩, by decide +kernel, rfl, msL_mark⟩
def f_L_mark (v1 : Int) (M : Mem) : Option (Int × Mem) := (f_X9_mark v1 M).bind fun p => if p.1 = 0 then (some (0, up p.2.2 113 0 p.2.1)) else if p.1 = 1 then some (1, p.2.2) else none
set_option maxRecDepth 20000 in
theorem ct_L_mark {G : Gl} (v1 : Int) (M : Mem) {res : Int × Mem} (hf : f_L_mark v1 M = some res) : CtW G miL_mark yL_mark 8 1 6 [aR 0, aI v1, aR 113] M (some (aI res.1)) res.2 := by
  refine CtW.of (L := [some (aR 0), some (aI v1), some (aR 113), none]) wwL_mark trivial nle ⟨rfl, rfl, rfl, trivial⟩ ?_
  unfold f_L_mark at hf
  obtain ⟨p, hp, hf⟩ := bdE hf
  refine R_aload_n dL_mark_0 rfl rfl ?_
  refine R_iconst dL_mark_1 (v := 0) rfl ?_
  refine R_aload_n dL_mark_2 rfl rfl ?_
  refine R_iload_n dL_mark_3 rfl rfl ?_
  refine R_callVXc (As := [aI v1]) (st := [aI 0, aR 113]) dL_mark_4 (ct_X9_mark _ _ hp) mwX9_mark mvX9_mark wd1180 cl9 o_0 rfl rfl ⟨nle, nle, nle, nle⟩ nle rfl (fun hx => ?_) (fun hx => ?_)
  · replace hf := inegE hf hx
    by_cases h0 : p.1 = 1
    · replace hf := iposE hf h0
      cases hf
      refine ⟨12, by rw [h0]; exact ⟨[], [], 0, 9, 25, rfl, (fun z hz => nomatch hz), by decide, by decide, by decide, wd981, wd993⟩, fun q => ?_⟩
      refine R_astoreV_n dL_mark_12 rfl (by decide) rfl ?_
      refine R_iconst dL_mark_13 (v := 1) rfl ?_
      exact EW_iret dL_mark_14 rfl rfl rfl
    replace hf := inegE hf h0
    cases hf
  · replace hf := iposE hf hx
    cases hf
    refine R_i2l dL_mark_7 (fun hin => ?_)
    refine R_lastore dL_mark_8 a_113 (by decide) (by decide) hin rfl ?_
    refine R_goto dL_mark_9 rfl ?_
    refine R_iconst dL_mark_15 (v := 0) rfl ?_
    exact EW_iret dL_mark_16 rfl rfl rfl
theorem wwL_unmark : WW miL_unmark yL_unmark 3 := ⟨wd1190, wd0, ⟨by decide +kernel, by decide +kernel, by decide +kernel⟩, by decide +kernel, rfl, msL_unmark⟩
def f_L_unmark (v1 : Int) (M : Mem) : Option (Int × Mem) := (f_X9_unmark v1 M).bind fun p => if p.1 = 0 then (some (0, up p.2.2 113 0 p.2.1)) else if p.1 = 1 then some (1, p.2.2) else none
set_option maxRecDepth 20000 in
theorem ct_L_unmark {G : Gl} (v1 : Int) (M : Mem) {res : Int × Mem} (hf : f_L_unmark v1 M = some res) : CtW G miL_unmark yL_unmark 8 1 6 [aR 0, aI v1, aR 113] M (some (aI res.1)) res.2 := by
  refine CtW.of (L := [some (aR 0), some (aI v1), some (aR 113), none]) wwL_unmark trivial nle ⟨rfl, rfl, rfl, trivial⟩ ?_
  unfold f_L_unmark at hf
  obtain ⟨p, hp, hf⟩ := bdE hf
  refine R_aload_n dL_unmark_0 rfl rfl ?_
  refine R_iconst dL_unmark_1 (v := 0) rfl ?_
  refine R_aload_n dL_unmark_2 rfl rfl ?_
  refine R_iload_n dL_unmark_3 rfl rfl ?_
  refine R_callVXc (As := [aI v1]) (st := [aI 0, aR 113]) dL_unmark_4 (ct_X9_unmark _ _ hp) mwX9_unmark mvX9_unmark wd1191 cl9 o_0 rfl rfl ⟨nle, nle, nle, nle⟩ nle rfl (fun hx => ?_) (fun hx => ?_)
  · replace hf := inegE hf hx
    by_cases h0 : p.1 = 1
    · replace hf := iposE hf h0
      cases hf
      refine ⟨12, by rw [h0]; exact ⟨[], [], 0, 9, 25, rfl, (fun z hz => nomatch hz), by decide, by decide, by decide, wd981, wd993⟩, fun q => ?_⟩
      refine R_astoreV_n dL_unmark_12 rfl (by decide) rfl ?_
      refine R_iconst dL_unmark_13 (v := 1) rfl ?_
      exact EW_iret dL_unmark_14 rfl rfl rfl
    replace hf := inegE hf h0
    cases hf
  · replace hf := iposE hf hx
    cases hf
    refine R_i2l dL_unmark_7 (fun hin => ?_)
    refine R_lastore dL_unmark_8 a_113 (by decide) (by decide) hin rfl ?_
    refine R_goto dL_unmark_9 rfl ?_
    refine R_iconst dL_unmark_15 (v := 0) rfl ?_
    exact EW_iret dL_unmark_16 rfl rfl rfl
theorem wwL_setColours : WW miL_setColours yL_setColours 3 := ⟨wd1201, wd0, ⟨by decide +kernel, by decide +kernel, by decide +kernel⟩, by decide +kernel, rfl, msL_setColours⟩
def f_L_setColours (v1 : Int) (M : Mem) : Option (Int × Mem) := (f_X9_setColours v1 M).bind fun p => if p.1 = 0 then (some (0, up p.2.2 113 0 p.2.1)) else if p.1 = 2 then some (1, p.2.2) else none
set_option maxRecDepth 20000 in
theorem ct_L_setColours {G : Gl} (v1 : Int) (M : Mem) {res : Int × Mem} (hf : f_L_setColours v1 M = some res) : CtW G miL_setColours yL_setColours 7 1 6 [aR 0, aI v1, aR 113] M (some (aI res.1)) res.2 := by
  refine CtW.of (L := [some (aR 0), some (aI v1), some (aR 113), none]) wwL_setColours trivial nle ⟨rfl, rfl, rfl, trivial⟩ ?_
  unfold f_L_setColours at hf
  obtain ⟨p, hp, hf⟩ := bdE hf
  refine R_aload_n dL_setColours_0 rfl rfl ?_
  refine R_iconst dL_setColours_1 (v := 0) rfl ?_
  refine R_aload_n dL_setColours_2 rfl rfl ?_
  refine R_iload_n dL_setColours_3 rfl rfl ?_
  refine R_callVXc (As := [aI v1]) (st := [aI 0, aR 113]) dL_setColours_4 (ct_X9_setColours _ _ hp) mwX9_setColours mvX9_setColours wd1202 cl9 o_0 rfl rfl ⟨nle, nle, nle, nle⟩ nle rfl (fun hx => ?_) (fun hx => ?_)
  · replace hf := inegE hf hx
    by_cases h0 : p.1 = 2
    · replace hf := iposE hf h0
      cases hf
      refine ⟨12, by rw [h0]; exact ⟨[], [], 0, 9, 13, rfl, (fun z hz => nomatch hz), by decide, by decide, by decide, wd705, wd716⟩, fun q => ?_⟩
      refine R_astoreV_n dL_setColours_12 rfl (by decide) rfl ?_
      refine R_iconst dL_setColours_13 (v := 1) rfl ?_
      exact EW_iret dL_setColours_14 rfl rfl rfl
    replace hf := inegE hf h0
    cases hf
  · replace hf := iposE hf hx
    cases hf
    refine R_i2l dL_setColours_7 (fun hin => ?_)
    refine R_lastore dL_setColours_8 a_113 (by decide) (by decide) hin rfl ?_
    refine R_goto dL_setColours_9 rfl ?_
    refine R_iconst dL_setColours_15 (v := 0) rfl ?_
    exact EW_iret dL_setColours_16 rfl rfl rfl
theorem wwL_setCosts : WW miL_setCosts yL_setCosts 5 := ⟨wd1209, wd0, ⟨by decide +kernel, by decide +kernel, by decide +kernel⟩, by decide +kernel, rfl, msL_setCosts⟩
def f_L_setCosts (v1 v2 v3 : Int) (M : Mem) : Option (Int × Mem) := (f_X9_setCosts v1 v2 v3 M).bind fun p => if p.1 = 0 then (some (0, up p.2.2 113 0 p.2.1)) else if p.1 = 2 then some (1, p.2.2) else none
set_option maxRecDepth 20000 in
theorem ct_L_setCosts {G : Gl} (v1 v2 v3 : Int) (M : Mem) {res : Int × Mem} (hf : f_L_setCosts v1 v2 v3 M = some res) : CtW G miL_setCosts yL_setCosts 7 1 6 [aR 0, aI v1, aI v2, aI v3, aR 113] M (some (aI res.1)) res.2 := by
  refine CtW.of (L := [some (aR 0), some (aI v1), some (aI v2), some (aI v3), some (aR 113), none]) wwL_setCosts trivial nle ⟨rfl, rfl, rfl, rfl, rfl, trivial⟩ ?_
  unfold f_L_setCosts at hf
  obtain ⟨p, hp, hf⟩ := bdE hf
  refine R_aload dL_setCosts_0 rfl ?_
  refine R_iconst dL_setCosts_2 (v := 0) rfl ?_
  refine R_aload_n dL_setCosts_3 rfl rfl ?_
  refine R_iload_n dL_setCosts_4 rfl rfl ?_
  refine R_iload_n dL_setCosts_5 rfl rfl ?_
  refine R_iload_n dL_setCosts_6 rfl rfl ?_
  refine R_callVXc (As := [aI v1, aI v2, aI v3]) (st := [aI 0, aR 113]) dL_setCosts_7 (ct_X9_setCosts _ _ _ _ hp) mwX9_setCosts mvX9_setCosts wd1210 cl9 o_0 rfl rfl ⟨nle, nle, nle, nle⟩ nle rfl (fun hx => ?_) (fun hx => ?_)
  · replace hf := inegE hf hx
    by_cases h0 : p.1 = 2
    · replace hf := iposE hf h0
      cases hf
      refine ⟨15, by rw [h0]; exact ⟨[], [], 0, 12, 13, rfl, (fun z hz => nomatch hz), by decide, by decide, by decide, wd705, wd716⟩, fun q => ?_⟩
      refine R_astoreV dL_setCosts_15 (by decide) rfl ?_
      refine R_iconst dL_setCosts_17 (v := 1) rfl ?_
      exact EW_iret dL_setCosts_18 rfl rfl rfl
    replace hf := inegE hf h0
    cases hf
  · replace hf := iposE hf hx
    cases hf
    refine R_i2l dL_setCosts_10 (fun hin => ?_)
    refine R_lastore dL_setCosts_11 a_113 (by decide) (by decide) hin rfl ?_
    refine R_goto dL_setCosts_12 rfl ?_
    refine R_iconst dL_setCosts_19 (v := 0) rfl ?_
    exact EW_iret dL_setCosts_20 rfl rfl rfl
theorem wwL_script : WW miL_script yL_script 3 := ⟨wd1220, wd0, ⟨by decide +kernel, by decide +kernel, by decide +kernel⟩, by decide +kernel, rfl, msL_script⟩
def f_L_script (v1 : Int) (M : Mem) : Option (Int × Mem) := (f_X9_script v1 M).bind fun p => if p.1 = 0 then (some (0, up p.2.2 113 0 p.2.1)) else if p.1 = 2 then some (1, p.2.2) else none
set_option maxRecDepth 20000 in
theorem ct_L_script {G : Gl} (v1 : Int) (M : Mem) {res : Int × Mem} (hf : f_L_script v1 M = some res) : CtW G miL_script yL_script 9 1 6 [aR 0, aI v1, aR 113] M (some (aI res.1)) res.2 := by
  refine CtW.of (L := [some (aR 0), some (aI v1), some (aR 113), none]) wwL_script trivial nle ⟨rfl, rfl, rfl, trivial⟩ ?_
  unfold f_L_script at hf
  obtain ⟨p, hp, hf⟩ := bdE hf
  refine R_aload_n dL_script_0 rfl rfl ?_
  refine R_iconst dL_script_1 (v := 0) rfl ?_
  refine R_aload_n dL_script_2 rfl rfl ?_
  refine R_iload_n dL_script_3 rfl rfl ?_
  refine R_callVXc (As := [aI v1]) (st := [aI 0, aR 113]) dL_script_4 (ct_X9_script _ _ hp) mwX9_script mvX9_script wd1221 cl9 o_0 rfl rfl ⟨nle, nle, nle, nle⟩ nle rfl (fun hx => ?_) (fun hx => ?_)
  · replace hf := inegE hf hx
    by_cases h0 : p.1 = 2
    · replace hf := iposE hf h0
      cases hf
      refine ⟨12, by rw [h0]; exact ⟨[], [], 0, 9, 13, rfl, (fun z hz => nomatch hz), by decide, by decide, by decide, wd705, wd716⟩, fun q => ?_⟩
      refine R_astoreV_n dL_script_12 rfl (by decide) rfl ?_
      refine R_iconst dL_script_13 (v := 1) rfl ?_
      exact EW_iret dL_script_14 rfl rfl rfl
    replace hf := inegE hf h0
    cases hf
  · replace hf := iposE hf hx
    cases hf
    refine R_i2l dL_script_7 (fun hin => ?_)
    refine R_lastore dL_script_8 a_113 (by decide) (by decide) hin rfl ?_
    refine R_goto dL_script_9 rfl ?_
    refine R_iconst dL_script_15 (v := 0) rfl ?_
    exact EW_iret dL_script_16 rfl rfl rfl
theorem wwL_saveSnapshot : WW miL_saveSnapshot yL_saveSnapshot 3 := ⟨wd1281, wd0, ⟨by decide +kernel, by decide +kernel, by decide +kernel⟩, by decide +kernel, rfl, msL_saveSnapshot⟩
def f_L_saveSnapshot (v1 : Int) (M : Mem) : Option (Int × Mem) := (f_X9_saveSnapshot v1 M).bind fun p => if p.1 = 0 then (if p.2.1 = 0 then some (0, up p.2.2 113 0 0) else some (0, up p.2.2 113 0 1)) else if p.1 = 1 then some (1, p.2.2) else none
set_option maxRecDepth 20000 in
theorem ct_L_saveSnapshot {G : Gl} (v1 : Int) (M : Mem) {res : Int × Mem} (hf : f_L_saveSnapshot v1 M = some res) : CtW G miL_saveSnapshot yL_saveSnapshot 8 1 6 [aR 0, aI v1, aR 113] M (some (aI res.1)) res.2 := by
  refine CtW.of (L := [some (aR 0), some (aI v1), some (aR 113), none]) wwL_saveSnapshot trivial nle ⟨rfl, rfl, rfl, trivial⟩ ?_
  unfold f_L_saveSnapshot at hf
  obtain ⟨p, hp, hf⟩ := bdE hf
  refine R_aload_n dL_saveSnapshot_0 rfl rfl ?_
  refine R_iconst dL_saveSnapshot_1 (v := 0) rfl ?_
  refine R_aload_n dL_saveSnapshot_2 rfl rfl ?_
  refine R_iload_n dL_saveSnapshot_3 rfl rfl ?_
  refine R_callVXc (As := [aI v1]) (st := [aI 0, aR 113]) dL_saveSnapshot_4 (ct_X9_saveSnapshot _ _ hp) mwX9_saveSnapshot mvX9_saveSnapshot wd1282 cl9 o_0 rfl rfl ⟨nle, nle, nle, nle⟩ nle rfl (fun hx => ?_) (fun hx => ?_)
  · replace hf := inegE hf hx
    by_cases h0 : p.1 = 1
    · replace hf := iposE hf h0
      cases hf
      refine ⟨19, by rw [h0]; exact ⟨[], [], 0, 16, 25, rfl, (fun z hz => nomatch hz), by decide, by decide, by decide, wd981, wd993⟩, fun q => ?_⟩
      refine R_astoreV_n dL_saveSnapshot_19 rfl (by decide) rfl ?_
      refine R_iconst dL_saveSnapshot_20 (v := 1) rfl ?_
      exact EW_iret dL_saveSnapshot_21 rfl rfl rfl
    replace hf := inegE hf h0
    cases hf
  · replace hf := iposE hf hx
    refine R_if_eq dL_saveSnapshot_7 rfl (fun h => ?_) (fun h => ?_)
    · replace hf := iposE hf h
      cases hf
      refine R_lconst dL_saveSnapshot_14 (a := 0) rfl ?_
      refine R_lastore dL_saveSnapshot_15 a_113 (by decide) (by decide) (by unfold inR; omega) rfl ?_
      refine R_goto dL_saveSnapshot_16 rfl ?_
      refine R_iconst dL_saveSnapshot_22 (v := 0) rfl ?_
      exact EW_iret dL_saveSnapshot_23 rfl rfl rfl
    · replace hf := inegE hf h
      cases hf
      refine R_lconst dL_saveSnapshot_10 (a := 1) rfl ?_
      refine R_goto dL_saveSnapshot_11 rfl ?_
      refine R_lastore dL_saveSnapshot_15 a_113 (by decide) (by decide) (by unfold inR; omega) rfl ?_
      refine R_goto dL_saveSnapshot_16 rfl ?_
      refine R_iconst dL_saveSnapshot_22 (v := 0) rfl ?_
      exact EW_iret dL_saveSnapshot_23 rfl rfl rfl
theorem wwL_restoreSnapshot : WW miL_restoreSnapshot yL_restoreSnapshot 3 := ⟨wd1293, wd0, ⟨by decide +kernel, by decide +kernel, by decide +kernel⟩, by decide +kernel, rfl, msL_restoreSnapshot⟩
def f_L_restoreSnapshot (v1 : Int) (M : Mem) : Option (Int × Mem) := (f_X9_restoreSnapshot v1 M).bind fun p => if p.1 = 0 then (some (0, up p.2.2 113 0 p.2.1)) else if p.1 = 1 then some (1, p.2.2) else if p.1 = 4 then some (2, p.2.2) else none
set_option maxRecDepth 20000 in
theorem ct_L_restoreSnapshot {G : Gl} (v1 : Int) (M : Mem) {res : Int × Mem} (hf : f_L_restoreSnapshot v1 M = some res) : CtW G miL_restoreSnapshot yL_restoreSnapshot 8 2 12 [aR 0, aI v1, aR 113] M (some (aI res.1)) res.2 := by
  refine CtW.of (L := [some (aR 0), some (aI v1), some (aR 113), none]) wwL_restoreSnapshot trivial nle ⟨rfl, rfl, rfl, trivial⟩ ?_
  unfold f_L_restoreSnapshot at hf
  obtain ⟨p, hp, hf⟩ := bdE hf
  refine R_aload_n dL_restoreSnapshot_0 rfl rfl ?_
  refine R_iconst dL_restoreSnapshot_1 (v := 0) rfl ?_
  refine R_aload_n dL_restoreSnapshot_2 rfl rfl ?_
  refine R_iload_n dL_restoreSnapshot_3 rfl rfl ?_
  refine R_callVXc (As := [aI v1]) (st := [aI 0, aR 113]) dL_restoreSnapshot_4 (ct_X9_restoreSnapshot _ _ hp) mwX9_restoreSnapshot mvX9_restoreSnapshot wd1295 cl9 o_0 rfl rfl ⟨nle, nle, nle, nle⟩ nle rfl (fun hx => ?_) (fun hx => ?_)
  · replace hf := inegE hf hx
    by_cases h0 : p.1 = 1
    · replace hf := iposE hf h0
      cases hf
      refine ⟨12, by rw [h0]; exact ⟨[], [(0, 9, 15, 86)], 0, 9, 25, rfl, (fun z hz => nomatch hz), by decide, by decide, by decide, wd981, wd993⟩, fun q => ?_⟩
      refine R_astoreV_n dL_restoreSnapshot_12 rfl (by decide) rfl ?_
      refine R_iconst dL_restoreSnapshot_13 (v := 1) rfl ?_
      exact EW_iret dL_restoreSnapshot_14 rfl rfl rfl
    replace hf := inegE hf h0
    by_cases h1 : p.1 = 4
    · replace hf := iposE hf h1
      cases hf
      refine ⟨15, by rw [h1]; exact ⟨[(0, 9, 12, 25)], [], 0, 9, 86, rfl, (fun z hz => by cases List.mem_singleton.mp hz; exact ⟨by decide, "java/lang/IndexOutOfBoundsException", wd981, by decide +kernel⟩), by decide, by decide, by decide, wd1294, wd1301⟩, fun q => ?_⟩
      refine R_astoreV_n dL_restoreSnapshot_15 rfl (by decide) rfl ?_
      refine R_iconst dL_restoreSnapshot_16 (v := 2) rfl ?_
      exact EW_iret dL_restoreSnapshot_17 rfl rfl rfl
    replace hf := inegE hf h1
    cases hf
  · replace hf := iposE hf hx
    cases hf
    refine R_i2l dL_restoreSnapshot_7 (fun hin => ?_)
    refine R_lastore dL_restoreSnapshot_8 a_113 (by decide) (by decide) hin rfl ?_
    refine R_goto dL_restoreSnapshot_9 rfl ?_
    refine R_iconst dL_restoreSnapshot_18 (v := 0) rfl ?_
    exact EW_iret dL_restoreSnapshot_19 rfl rfl rfl
