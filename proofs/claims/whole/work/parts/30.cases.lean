/-! ===== the law's cases ===== -/
variable {xt : List (Nat × Nat × Nat × Nat)}
theorem lcel {a : Nat} (h : a ≤ 601024) : a ≤ room_1.cells := h
theorem lslo {a : Nat} (h : a ≤ 7293034) : a ≤ room_1.slots := h
def f_law_0 (v1 v2 v3 v4 v5 : Int) (M : Mem) : Option Mem :=
  (f_X9_append v1 v2 v3 v4 v5 M).bind fun p227 =>
  (f_X10_append v1 v2 v3 v4 v5 p227.2).bind fun p261 =>
  if p227.1 = p261.1 then
  some p261.2
  else none
set_option maxRecDepth 20000 in
theorem rl_0 {G : Gl} {i : Int} {cells slots : Nat} {v1 v2 v3 v4 v5 : Int} {M res : Mem} (hi0 : 0 ≤ i) (hi1 : i + 6 ≤ (G.2.2.2.2.1 : Nat)) (hL : G.2.2.2.2.1 ≤ 3072) (hcc : cells ≤ 4000) (hss : slots ≤ 300000) (e1 : v1 = sxs G (i + 1)) (e2 : v2 = sxs G (i + 2)) (e3 : v3 = sxs G (i + 3)) (e4 : v4 = sxs G (i + 4)) (e5 : v5 = sxs G (i + 5)) (hf : f_law_0 v1 v2 v3 v4 v5 M = some res) (K : ∀ c s : Nat, c ≤ cells + 2 → s ≤ slots + 12 → Run G true room_1 (miL_law xt) (ZL G) c s 1906 [some (aR 199), some (aR 0), some (aR 84), some (aR 113), some (aI i), none, none, none, none] [] res) : Run G true room_1 (miL_law xt) (ZL G) cells slots 196 [some (aR 199), some (aR 0), some (aR 84), some (aR 113), some (aI i), none, none, none, none] [] M := by
  unfold f_law_0 at hf
  refine R_aload_n dL_law_196 rfl rfl ?_
  refine R_aload_n dL_law_197 rfl rfl ?_
  refine R_iload dL_law_198 rfl ?_
  refine R_iconst dL_law_200 (v := 1) rfl ?_
  refine R_iadd dL_law_201 (show i + 1 = w32 (i + 1) from (w32_of (by omega) (by omega)).symm) ?_
  refine R_sload dL_law_202 (by omega) (by omega) e1 ?_
  refine R_aload_n dL_law_203 rfl rfl ?_
  refine R_iload dL_law_204 rfl ?_
  refine R_iconst dL_law_206 (v := 2) rfl ?_
  refine R_iadd dL_law_207 (show i + 2 = w32 (i + 2) from (w32_of (by omega) (by omega)).symm) ?_
  refine R_sload dL_law_208 (by omega) (by omega) e2 ?_
  refine R_aload_n dL_law_209 rfl rfl ?_
  refine R_iload dL_law_210 rfl ?_
  refine R_iconst dL_law_212 (v := 3) rfl ?_
  refine R_iadd dL_law_213 (show i + 3 = w32 (i + 3) from (w32_of (by omega) (by omega)).symm) ?_
  refine R_sload dL_law_214 (by omega) (by omega) e3 ?_
  refine R_aload_n dL_law_215 rfl rfl ?_
  refine R_iload dL_law_216 rfl ?_
  refine R_iconst dL_law_218 (v := 4) rfl ?_
  refine R_iadd dL_law_219 (show i + 4 = w32 (i + 4) from (w32_of (by omega) (by omega)).symm) ?_
  refine R_sload dL_law_220 (by omega) (by omega) e4 ?_
  refine R_aload_n dL_law_221 rfl rfl ?_
  refine R_iload dL_law_222 rfl ?_
  refine R_iconst dL_law_224 (v := 5) rfl ?_
  refine R_iadd dL_law_225 (show i + 5 = w32 (i + 5) from (w32_of (by omega) (by omega)).symm) ?_
  refine R_sload dL_law_226 (by omega) (by omega) e5 ?_
  obtain ⟨p227, hp227, hf⟩ := bdE hf
  refine R_callV (As := [aI v1, aI v2, aI v3, aI v4, aI v5]) (st := []) dL_law_227 (ct_X9_append _ _ _ _ _ _ hp227) mwX9_append mvX9_append (Or.inl wd378) cl9 o_0 rfl rfl ⟨nle, nle, lcel (by omega), lslo (by omega)⟩ nle rfl ?_
  refine R_aload_n dL_law_230 rfl rfl ?_
  refine R_aload_n dL_law_231 rfl rfl ?_
  refine R_iload dL_law_232 rfl ?_
  refine R_iconst dL_law_234 (v := 1) rfl ?_
  refine R_iadd dL_law_235 (show i + 1 = w32 (i + 1) from (w32_of (by omega) (by omega)).symm) ?_
  refine R_sload dL_law_236 (by omega) (by omega) e1 ?_
  refine R_aload_n dL_law_237 rfl rfl ?_
  refine R_iload dL_law_238 rfl ?_
  refine R_iconst dL_law_240 (v := 2) rfl ?_
  refine R_iadd dL_law_241 (show i + 2 = w32 (i + 2) from (w32_of (by omega) (by omega)).symm) ?_
  refine R_sload dL_law_242 (by omega) (by omega) e2 ?_
  refine R_aload_n dL_law_243 rfl rfl ?_
  refine R_iload dL_law_244 rfl ?_
  refine R_iconst dL_law_246 (v := 3) rfl ?_
  refine R_iadd dL_law_247 (show i + 3 = w32 (i + 3) from (w32_of (by omega) (by omega)).symm) ?_
  refine R_sload dL_law_248 (by omega) (by omega) e3 ?_
  refine R_aload_n dL_law_249 rfl rfl ?_
  refine R_iload dL_law_250 rfl ?_
  refine R_iconst dL_law_252 (v := 4) rfl ?_
  refine R_iadd dL_law_253 (show i + 4 = w32 (i + 4) from (w32_of (by omega) (by omega)).symm) ?_
  refine R_sload dL_law_254 (by omega) (by omega) e4 ?_
  refine R_aload_n dL_law_255 rfl rfl ?_
  refine R_iload dL_law_256 rfl ?_
  refine R_iconst dL_law_258 (v := 5) rfl ?_
  refine R_iadd dL_law_259 (show i + 5 = w32 (i + 5) from (w32_of (by omega) (by omega)).symm) ?_
  refine R_sload dL_law_260 (by omega) (by omega) e5 ?_
  obtain ⟨p261, hp261, hf⟩ := bdE hf
  refine R_callV (As := [aI v1, aI v2, aI v3, aI v4, aI v5]) (st := [aI p227.1]) dL_law_261 (ct_X10_append _ _ _ _ _ _ hp261) mwX10_append mvX10_append (Or.inl wd1480) cl10 o_84 rfl rfl ⟨nle, nle, lcel (by omega), lslo (by omega)⟩ nle rfl ?_
  obtain ⟨hq, hf⟩ := gdE hf
  refine R_icmp_eq dL_law_264 rfl (fun _ => ?_) (fun h => absurd hq h)
  cases hf
  exact R_subk (K cells slots (by omega) (by omega)) ⟨rfl, rfl, rfl, rfl, rfl, trivial⟩
def f_law_1 (v1 : Int) (M : Mem) : Option Mem :=
  (f_L_setup v1 M).bind fun p277 =>
  (f_X10_setup v1 p277.2).bind fun p289 =>
  (f_X10_thrown p289.2).bind fun p295 =>
  if p295 = p277.1 then
  if p277.1 = 0 then
    if p289.2 113 0 = p289.1 then
    some p289.2
    else none
  else
    some p289.2
  else none
set_option maxRecDepth 20000 in
theorem rl_1 {G : Gl} {i : Int} {cells slots : Nat} {v1 : Int} {M res : Mem} (hi0 : 0 ≤ i) (hi1 : i + 6 ≤ (G.2.2.2.2.1 : Nat)) (hL : G.2.2.2.2.1 ≤ 3072) (hcc : cells ≤ 4000) (hss : slots ≤ 300000) (e1 : v1 = sxs G (i + 1)) (hf : f_law_1 v1 M = some res) (K : ∀ c s : Nat, c ≤ cells + 2 → s ≤ slots + 12 → Run G true room_1 (miL_law xt) (ZL G) c s 1906 [some (aR 199), some (aR 0), some (aR 84), some (aR 113), some (aI i), none, none, none, none] [] res) : Run G true room_1 (miL_law xt) (ZL G) cells slots 269 [some (aR 199), some (aR 0), some (aR 84), some (aR 113), some (aI i), none, none, none, none] [] M := by
  unfold f_law_1 at hf
  refine R_aload_n dL_law_269 rfl rfl ?_
  refine R_aload_n dL_law_270 rfl rfl ?_
  refine R_iload dL_law_271 rfl ?_
  refine R_iconst dL_law_273 (v := 1) rfl ?_
  refine R_iadd dL_law_274 (show i + 1 = w32 (i + 1) from (w32_of (by omega) (by omega)).symm) ?_
  refine R_sload dL_law_275 (by omega) (by omega) e1 ?_
  refine R_aload_n dL_law_276 rfl rfl ?_
  obtain ⟨p277, hp277, hf⟩ := bdE hf
  refine R_callSW (As := [aR 0, aI v1, aR 113]) (st := []) dL_law_277 (ct_L_setup _ _ hp277) wwL_setup wd702 rfl ⟨nle, nle, lcel (by omega), lslo (by omega)⟩ nle rfl ?_
  refine R_istore dL_law_280 (show 5 < 9 by decide) rfl rfl ?_
  refine R_aload_n dL_law_282 rfl rfl ?_
  refine R_aload_n dL_law_283 rfl rfl ?_
  refine R_iload dL_law_284 rfl ?_
  refine R_iconst dL_law_286 (v := 1) rfl ?_
  refine R_iadd dL_law_287 (show i + 1 = w32 (i + 1) from (w32_of (by omega) (by omega)).symm) ?_
  refine R_sload dL_law_288 (by omega) (by omega) e1 ?_
  obtain ⟨p289, hp289, hf⟩ := bdE hf
  refine R_callV (As := [aI v1]) (st := []) dL_law_289 (ct_X10_setup _ _ hp289) mwX10_setup mvX10_setup (Or.inl wd1488) cl10 o_84 rfl rfl ⟨nle, nle, lcel (by omega), lslo (by omega)⟩ nle rfl ?_
  refine R_istore dL_law_292 (show 6 < 9 by decide) rfl rfl ?_
  refine R_aload_n dL_law_294 rfl rfl ?_
  obtain ⟨p295, hp295, hf⟩ := bdE hf
  refine R_callV (As := []) (st := []) dL_law_295 (ct_X10_thrown  _ hp295) mwX10_thrown mvX10_thrown (Or.inl wd1476) cl10 o_84 rfl rfl ⟨nle, nle, lcel (by omega), lslo (by omega)⟩ nle rfl ?_
  refine R_iload dL_law_298 rfl ?_
  obtain ⟨hq, hf⟩ := gdE hf
  refine R_icmp_eq dL_law_300 rfl (fun _ => ?_) (fun h => absurd hq h)
  refine R_iload dL_law_305 rfl ?_
  refine R_if_ne dL_law_307 rfl (fun h307 => ?_) (fun h307 => ?_)
  · replace hf := inegE hf h307
    refine R_goto dL_law_322 rfl ?_
    cases hf
    exact R_subk (K (cells + 1) (slots + 6) (by omega) (by omega)) ⟨rfl, rfl, rfl, rfl, rfl, trivial⟩
  · replace hf := iposE hf h307
    refine R_aload_n dL_law_310 rfl rfl ?_
    refine R_iconst dL_law_311 (v := 0) rfl ?_
    refine R_laload dL_law_312 a_113 (by decide) (by decide) rfl (fun hin312 => ?_)
    refine R_iload dL_law_313 rfl ?_
    refine R_i2l dL_law_315 (fun hin315 => ?_)
    obtain ⟨hq, hf⟩ := gdE hf
    refine R_lcmp dL_law_316 hin312 hin315 (fun c316 hc316 => ?_)
    refine R_if_eq dL_law_317 rfl (fun _ => ?_) (fun h => absurd (hc316.mpr hq) h)
    refine R_goto dL_law_322 rfl ?_
    cases hf
    exact R_subk (K (cells + 1) (slots + 6) (by omega) (by omega)) ⟨rfl, rfl, rfl, rfl, rfl, trivial⟩
def f_law_2 (v1 : Int) (M : Mem) : Option Mem :=
  (f_L_load v1 M).bind fun p333 =>
  (f_X10_load v1 p333.2).bind fun p345 =>
  (f_X10_thrown p345.2).bind fun p351 =>
  if p351 = p333.1 then
  if p333.1 = 0 then
    if p345.2 113 0 = p345.1 then
    some p345.2
    else none
  else
    some p345.2
  else none
set_option maxRecDepth 20000 in
theorem rl_2 {G : Gl} {i : Int} {cells slots : Nat} {v1 : Int} {M res : Mem} (hi0 : 0 ≤ i) (hi1 : i + 6 ≤ (G.2.2.2.2.1 : Nat)) (hL : G.2.2.2.2.1 ≤ 3072) (hcc : cells ≤ 4000) (hss : slots ≤ 300000) (e1 : v1 = sxs G (i + 1)) (hf : f_law_2 v1 M = some res) (K : ∀ c s : Nat, c ≤ cells + 2 → s ≤ slots + 12 → Run G true room_1 (miL_law xt) (ZL G) c s 1906 [some (aR 199), some (aR 0), some (aR 84), some (aR 113), some (aI i), none, none, none, none] [] res) : Run G true room_1 (miL_law xt) (ZL G) cells slots 325 [some (aR 199), some (aR 0), some (aR 84), some (aR 113), some (aI i), none, none, none, none] [] M := by
  unfold f_law_2 at hf
  refine R_aload_n dL_law_325 rfl rfl ?_
  refine R_aload_n dL_law_326 rfl rfl ?_
  refine R_iload dL_law_327 rfl ?_
  refine R_iconst dL_law_329 (v := 1) rfl ?_
  refine R_iadd dL_law_330 (show i + 1 = w32 (i + 1) from (w32_of (by omega) (by omega)).symm) ?_
  refine R_sload dL_law_331 (by omega) (by omega) e1 ?_
  refine R_aload_n dL_law_332 rfl rfl ?_
  obtain ⟨p333, hp333, hf⟩ := bdE hf
  refine R_callSW (As := [aR 0, aI v1, aR 113]) (st := []) dL_law_333 (ct_L_load _ _ hp333) wwL_load wd938 rfl ⟨nle, nle, lcel (by omega), lslo (by omega)⟩ nle rfl ?_
  refine R_istore dL_law_336 (show 5 < 9 by decide) rfl rfl ?_
  refine R_aload_n dL_law_338 rfl rfl ?_
  refine R_aload_n dL_law_339 rfl rfl ?_
  refine R_iload dL_law_340 rfl ?_
  refine R_iconst dL_law_342 (v := 1) rfl ?_
  refine R_iadd dL_law_343 (show i + 1 = w32 (i + 1) from (w32_of (by omega) (by omega)).symm) ?_
  refine R_sload dL_law_344 (by omega) (by omega) e1 ?_
  obtain ⟨p345, hp345, hf⟩ := bdE hf
  refine R_callV (As := [aI v1]) (st := []) dL_law_345 (ct_X10_load _ _ hp345) mwX10_load mvX10_load (Or.inl wd1583) cl10 o_84 rfl rfl ⟨nle, nle, lcel (by omega), lslo (by omega)⟩ nle rfl ?_
  refine R_istore dL_law_348 (show 6 < 9 by decide) rfl rfl ?_
  refine R_aload_n dL_law_350 rfl rfl ?_
  obtain ⟨p351, hp351, hf⟩ := bdE hf
  refine R_callV (As := []) (st := []) dL_law_351 (ct_X10_thrown  _ hp351) mwX10_thrown mvX10_thrown (Or.inl wd1476) cl10 o_84 rfl rfl ⟨nle, nle, lcel (by omega), lslo (by omega)⟩ nle rfl ?_
  refine R_iload dL_law_354 rfl ?_
  obtain ⟨hq, hf⟩ := gdE hf
  refine R_icmp_eq dL_law_356 rfl (fun _ => ?_) (fun h => absurd hq h)
  refine R_iload dL_law_361 rfl ?_
  refine R_if_ne dL_law_363 rfl (fun h363 => ?_) (fun h363 => ?_)
  · replace hf := inegE hf h363
    refine R_goto dL_law_378 rfl ?_
    cases hf
    exact R_subk (K (cells + 1) (slots + 6) (by omega) (by omega)) ⟨rfl, rfl, rfl, rfl, rfl, trivial⟩
  · replace hf := iposE hf h363
    refine R_aload_n dL_law_366 rfl rfl ?_
    refine R_iconst dL_law_367 (v := 0) rfl ?_
    refine R_laload dL_law_368 a_113 (by decide) (by decide) rfl (fun hin368 => ?_)
    refine R_iload dL_law_369 rfl ?_
    refine R_i2l dL_law_371 (fun hin371 => ?_)
    obtain ⟨hq, hf⟩ := gdE hf
    refine R_lcmp dL_law_372 hin368 hin371 (fun c372 hc372 => ?_)
    refine R_if_eq dL_law_373 rfl (fun _ => ?_) (fun h => absurd (hc372.mpr hq) h)
    refine R_goto dL_law_378 rfl ?_
    cases hf
    exact R_subk (K (cells + 1) (slots + 6) (by omega) (by omega)) ⟨rfl, rfl, rfl, rfl, rfl, trivial⟩
def f_law_3 (M : Mem) : Option Mem :=
  (f_X9_errorPosition M).bind fun p382 =>
  (f_X10_errorPosition M).bind fun p386 =>
  if p382 = p386.1 then
  some p386.2
  else none
set_option maxRecDepth 20000 in
theorem rl_3 {G : Gl} {i : Int} {cells slots : Nat} {M res : Mem} (hi0 : 0 ≤ i) (hi1 : i + 6 ≤ (G.2.2.2.2.1 : Nat)) (hL : G.2.2.2.2.1 ≤ 3072) (hcc : cells ≤ 4000) (hss : slots ≤ 300000)  (hf : f_law_3  M = some res) (K : ∀ c s : Nat, c ≤ cells + 2 → s ≤ slots + 12 → Run G true room_1 (miL_law xt) (ZL G) c s 1906 [some (aR 199), some (aR 0), some (aR 84), some (aR 113), some (aI i), none, none, none, none] [] res) : Run G true room_1 (miL_law xt) (ZL G) cells slots 381 [some (aR 199), some (aR 0), some (aR 84), some (aR 113), some (aI i), none, none, none, none] [] M := by
  unfold f_law_3 at hf
  refine R_aload_n dL_law_381 rfl rfl ?_
  obtain ⟨p382, hp382, hf⟩ := bdE hf
  refine R_callV (As := []) (st := []) dL_law_382 (ct_X9_errorPosition  _ hp382) mwX9_errorPosition mvX9_errorPosition (Or.inl wd386) cl9 o_0 rfl rfl ⟨nle, nle, lcel (by omega), lslo (by omega)⟩ nle rfl ?_
  refine R_aload_n dL_law_385 rfl rfl ?_
  obtain ⟨p386, hp386, hf⟩ := bdE hf
  refine R_callV (As := []) (st := [aI p382]) dL_law_386 (ct_X10_errorPosition  _ hp386) mwX10_errorPosition mvX10_errorPosition (Or.inl wd1606) cl10 o_84 rfl rfl ⟨nle, nle, lcel (by omega), lslo (by omega)⟩ nle rfl ?_
  obtain ⟨hq, hf⟩ := gdE hf
  refine R_icmp_eq dL_law_389 rfl (fun _ => ?_) (fun h => absurd hq h)
  cases hf
  exact R_subk (K cells slots (by omega) (by omega)) ⟨rfl, rfl, rfl, rfl, rfl, trivial⟩
def f_law_4 (v1 : Int) (M : Mem) : Option Mem :=
  (f_L_size v1 M).bind fun p402 =>
  (f_X10_size v1 p402.2).bind fun p414 =>
  (f_X10_thrown p414.2).bind fun p420 =>
  if p420 = p402.1 then
  if p402.1 = 0 then
    if p414.2 113 0 = p414.1 then
    some p414.2
    else none
  else
    some p414.2
  else none
set_option maxRecDepth 20000 in
theorem rl_4 {G : Gl} {i : Int} {cells slots : Nat} {v1 : Int} {M res : Mem} (hi0 : 0 ≤ i) (hi1 : i + 6 ≤ (G.2.2.2.2.1 : Nat)) (hL : G.2.2.2.2.1 ≤ 3072) (hcc : cells ≤ 4000) (hss : slots ≤ 300000) (e1 : v1 = sxs G (i + 1)) (hf : f_law_4 v1 M = some res) (K : ∀ c s : Nat, c ≤ cells + 2 → s ≤ slots + 12 → Run G true room_1 (miL_law xt) (ZL G) c s 1906 [some (aR 199), some (aR 0), some (aR 84), some (aR 113), some (aI i), none, none, none, none] [] res) : Run G true room_1 (miL_law xt) (ZL G) cells slots 394 [some (aR 199), some (aR 0), some (aR 84), some (aR 113), some (aI i), none, none, none, none] [] M := by
  unfold f_law_4 at hf
  refine R_aload_n dL_law_394 rfl rfl ?_
  refine R_aload_n dL_law_395 rfl rfl ?_
  refine R_iload dL_law_396 rfl ?_
  refine R_iconst dL_law_398 (v := 1) rfl ?_
  refine R_iadd dL_law_399 (show i + 1 = w32 (i + 1) from (w32_of (by omega) (by omega)).symm) ?_
  refine R_sload dL_law_400 (by omega) (by omega) e1 ?_
  refine R_aload_n dL_law_401 rfl rfl ?_
  obtain ⟨p402, hp402, hf⟩ := bdE hf
  refine R_callSW (As := [aR 0, aI v1, aR 113]) (st := []) dL_law_402 (ct_L_size _ _ hp402) wwL_size wd962 rfl ⟨nle, nle, lcel (by omega), lslo (by omega)⟩ nle rfl ?_
  refine R_istore dL_law_405 (show 5 < 9 by decide) rfl rfl ?_
  refine R_aload_n dL_law_407 rfl rfl ?_
  refine R_aload_n dL_law_408 rfl rfl ?_
  refine R_iload dL_law_409 rfl ?_
  refine R_iconst dL_law_411 (v := 1) rfl ?_
  refine R_iadd dL_law_412 (show i + 1 = w32 (i + 1) from (w32_of (by omega) (by omega)).symm) ?_
  refine R_sload dL_law_413 (by omega) (by omega) e1 ?_
  obtain ⟨p414, hp414, hf⟩ := bdE hf
  refine R_callV (As := [aI v1]) (st := []) dL_law_414 (ct_X10_size _ _ hp414) mwX10_size mvX10_size (Or.inl wd1610) cl10 o_84 rfl rfl ⟨nle, nle, lcel (by omega), lslo (by omega)⟩ nle rfl ?_
  refine R_istore dL_law_417 (show 6 < 9 by decide) rfl rfl ?_
  refine R_aload_n dL_law_419 rfl rfl ?_
  obtain ⟨p420, hp420, hf⟩ := bdE hf
  refine R_callV (As := []) (st := []) dL_law_420 (ct_X10_thrown  _ hp420) mwX10_thrown mvX10_thrown (Or.inl wd1476) cl10 o_84 rfl rfl ⟨nle, nle, lcel (by omega), lslo (by omega)⟩ nle rfl ?_
  refine R_iload dL_law_423 rfl ?_
  obtain ⟨hq, hf⟩ := gdE hf
  refine R_icmp_eq dL_law_425 rfl (fun _ => ?_) (fun h => absurd hq h)
  refine R_iload dL_law_430 rfl ?_
  refine R_if_ne dL_law_432 rfl (fun h432 => ?_) (fun h432 => ?_)
  · replace hf := inegE hf h432
    refine R_goto dL_law_447 rfl ?_
    cases hf
    exact R_subk (K (cells + 1) (slots + 6) (by omega) (by omega)) ⟨rfl, rfl, rfl, rfl, rfl, trivial⟩
  · replace hf := iposE hf h432
    refine R_aload_n dL_law_435 rfl rfl ?_
    refine R_iconst dL_law_436 (v := 0) rfl ?_
    refine R_laload dL_law_437 a_113 (by decide) (by decide) rfl (fun hin437 => ?_)
    refine R_iload dL_law_438 rfl ?_
    refine R_i2l dL_law_440 (fun hin440 => ?_)
    obtain ⟨hq, hf⟩ := gdE hf
    refine R_lcmp dL_law_441 hin437 hin440 (fun c441 hc441 => ?_)
    refine R_if_eq dL_law_442 rfl (fun _ => ?_) (fun h => absurd (hc441.mpr hq) h)
    refine R_goto dL_law_447 rfl ?_
    cases hf
    exact R_subk (K (cells + 1) (slots + 6) (by omega) (by omega)) ⟨rfl, rfl, rfl, rfl, rfl, trivial⟩
def f_law_5 (v1 v2 : Int) (M : Mem) : Option Mem :=
  (f_L_look v1 v2 M).bind fun p464 =>
  (f_X10_look v1 v2 p464.2).bind fun p482 =>
  (f_X10_thrown p482.2).bind fun p488 =>
  if p488 = p464.1 then
  if p464.1 = 0 then
    if p482.2 113 0 = p482.1 then
    some p482.2
    else none
  else
    some p482.2
  else none
set_option maxRecDepth 20000 in
theorem rl_5 {G : Gl} {i : Int} {cells slots : Nat} {v1 v2 : Int} {M res : Mem} (hi0 : 0 ≤ i) (hi1 : i + 6 ≤ (G.2.2.2.2.1 : Nat)) (hL : G.2.2.2.2.1 ≤ 3072) (hcc : cells ≤ 4000) (hss : slots ≤ 300000) (e1 : v1 = sxs G (i + 1)) (e2 : v2 = sxs G (i + 2)) (hf : f_law_5 v1 v2 M = some res) (K : ∀ c s : Nat, c ≤ cells + 2 → s ≤ slots + 12 → Run G true room_1 (miL_law xt) (ZL G) c s 1906 [some (aR 199), some (aR 0), some (aR 84), some (aR 113), some (aI i), none, none, none, none] [] res) : Run G true room_1 (miL_law xt) (ZL G) cells slots 450 [some (aR 199), some (aR 0), some (aR 84), some (aR 113), some (aI i), none, none, none, none] [] M := by
  unfold f_law_5 at hf
  refine R_aload_n dL_law_450 rfl rfl ?_
  refine R_aload_n dL_law_451 rfl rfl ?_
  refine R_iload dL_law_452 rfl ?_
  refine R_iconst dL_law_454 (v := 1) rfl ?_
  refine R_iadd dL_law_455 (show i + 1 = w32 (i + 1) from (w32_of (by omega) (by omega)).symm) ?_
  refine R_sload dL_law_456 (by omega) (by omega) e1 ?_
  refine R_aload_n dL_law_457 rfl rfl ?_
  refine R_iload dL_law_458 rfl ?_
  refine R_iconst dL_law_460 (v := 2) rfl ?_
  refine R_iadd dL_law_461 (show i + 2 = w32 (i + 2) from (w32_of (by omega) (by omega)).symm) ?_
  refine R_sload dL_law_462 (by omega) (by omega) e2 ?_
  refine R_aload_n dL_law_463 rfl rfl ?_
  obtain ⟨p464, hp464, hf⟩ := bdE hf
  refine R_callSW (As := [aR 0, aI v1, aI v2, aR 113]) (st := []) dL_law_464 (ct_L_look _ _ _ hp464) wwL_look wd978 rfl ⟨nle, nle, lcel (by omega), lslo (by omega)⟩ nle rfl ?_
  refine R_istore dL_law_467 (show 5 < 9 by decide) rfl rfl ?_
  refine R_aload_n dL_law_469 rfl rfl ?_
  refine R_aload_n dL_law_470 rfl rfl ?_
  refine R_iload dL_law_471 rfl ?_
  refine R_iconst dL_law_473 (v := 1) rfl ?_
  refine R_iadd dL_law_474 (show i + 1 = w32 (i + 1) from (w32_of (by omega) (by omega)).symm) ?_
  refine R_sload dL_law_475 (by omega) (by omega) e1 ?_
  refine R_aload_n dL_law_476 rfl rfl ?_
  refine R_iload dL_law_477 rfl ?_
  refine R_iconst dL_law_479 (v := 2) rfl ?_
  refine R_iadd dL_law_480 (show i + 2 = w32 (i + 2) from (w32_of (by omega) (by omega)).symm) ?_
  refine R_sload dL_law_481 (by omega) (by omega) e2 ?_
  obtain ⟨p482, hp482, hf⟩ := bdE hf
  refine R_callV (As := [aI v1, aI v2]) (st := []) dL_law_482 (ct_X10_look _ _ _ hp482) mwX10_look mvX10_look (Or.inl wd1655) cl10 o_84 rfl rfl ⟨nle, nle, lcel (by omega), lslo (by omega)⟩ nle rfl ?_
  refine R_istore dL_law_485 (show 6 < 9 by decide) rfl rfl ?_
  refine R_aload_n dL_law_487 rfl rfl ?_
  obtain ⟨p488, hp488, hf⟩ := bdE hf
  refine R_callV (As := []) (st := []) dL_law_488 (ct_X10_thrown  _ hp488) mwX10_thrown mvX10_thrown (Or.inl wd1476) cl10 o_84 rfl rfl ⟨nle, nle, lcel (by omega), lslo (by omega)⟩ nle rfl ?_
  refine R_iload dL_law_491 rfl ?_
  obtain ⟨hq, hf⟩ := gdE hf
  refine R_icmp_eq dL_law_493 rfl (fun _ => ?_) (fun h => absurd hq h)
  refine R_iload dL_law_498 rfl ?_
  refine R_if_ne dL_law_500 rfl (fun h500 => ?_) (fun h500 => ?_)
  · replace hf := inegE hf h500
    refine R_goto dL_law_515 rfl ?_
    cases hf
    exact R_subk (K (cells + 2) (slots + 12) (by omega) (by omega)) ⟨rfl, rfl, rfl, rfl, rfl, trivial⟩
  · replace hf := iposE hf h500
    refine R_aload_n dL_law_503 rfl rfl ?_
    refine R_iconst dL_law_504 (v := 0) rfl ?_
    refine R_laload dL_law_505 a_113 (by decide) (by decide) rfl (fun hin505 => ?_)
    refine R_iload dL_law_506 rfl ?_
    refine R_i2l dL_law_508 (fun hin508 => ?_)
    obtain ⟨hq, hf⟩ := gdE hf
    refine R_lcmp dL_law_509 hin505 hin508 (fun c509 hc509 => ?_)
    refine R_if_eq dL_law_510 rfl (fun _ => ?_) (fun h => absurd (hc509.mpr hq) h)
    refine R_goto dL_law_515 rfl ?_
    cases hf
    exact R_subk (K (cells + 2) (slots + 12) (by omega) (by omega)) ⟨rfl, rfl, rfl, rfl, rfl, trivial⟩
def f_law_6 (v1 v2 : Int) (M : Mem) : Option Mem :=
  (f_L_around v1 v2 M).bind fun p532 =>
  (f_X10_around v1 v2 p532.2).bind fun p550 =>
  (f_X10_thrown p550.2).bind fun p556 =>
  if p556 = p532.1 then
  if p532.1 = 0 then
    if p550.2 113 0 = p550.1 then
    some p550.2
    else none
  else
    some p550.2
  else none
set_option maxRecDepth 20000 in
theorem rl_6 {G : Gl} {i : Int} {cells slots : Nat} {v1 v2 : Int} {M res : Mem} (hi0 : 0 ≤ i) (hi1 : i + 6 ≤ (G.2.2.2.2.1 : Nat)) (hL : G.2.2.2.2.1 ≤ 3072) (hcc : cells ≤ 4000) (hss : slots ≤ 300000) (e1 : v1 = sxs G (i + 1)) (e2 : v2 = sxs G (i + 2)) (hf : f_law_6 v1 v2 M = some res) (K : ∀ c s : Nat, c ≤ cells + 2 → s ≤ slots + 12 → Run G true room_1 (miL_law xt) (ZL G) c s 1906 [some (aR 199), some (aR 0), some (aR 84), some (aR 113), some (aI i), none, none, none, none] [] res) : Run G true room_1 (miL_law xt) (ZL G) cells slots 518 [some (aR 199), some (aR 0), some (aR 84), some (aR 113), some (aI i), none, none, none, none] [] M := by
  unfold f_law_6 at hf
  refine R_aload_n dL_law_518 rfl rfl ?_
  refine R_aload_n dL_law_519 rfl rfl ?_
  refine R_iload dL_law_520 rfl ?_
  refine R_iconst dL_law_522 (v := 1) rfl ?_
  refine R_iadd dL_law_523 (show i + 1 = w32 (i + 1) from (w32_of (by omega) (by omega)).symm) ?_
  refine R_sload dL_law_524 (by omega) (by omega) e1 ?_
  refine R_aload_n dL_law_525 rfl rfl ?_
  refine R_iload dL_law_526 rfl ?_
  refine R_iconst dL_law_528 (v := 2) rfl ?_
  refine R_iadd dL_law_529 (show i + 2 = w32 (i + 2) from (w32_of (by omega) (by omega)).symm) ?_
  refine R_sload dL_law_530 (by omega) (by omega) e2 ?_
  refine R_aload_n dL_law_531 rfl rfl ?_
  obtain ⟨p532, hp532, hf⟩ := bdE hf
  refine R_callSW (As := [aR 0, aI v1, aI v2, aR 113]) (st := []) dL_law_532 (ct_L_around _ _ _ hp532) wwL_around wd1017 rfl ⟨nle, nle, lcel (by omega), lslo (by omega)⟩ nle rfl ?_
  refine R_istore dL_law_535 (show 5 < 9 by decide) rfl rfl ?_
  refine R_aload_n dL_law_537 rfl rfl ?_
  refine R_aload_n dL_law_538 rfl rfl ?_
  refine R_iload dL_law_539 rfl ?_
  refine R_iconst dL_law_541 (v := 1) rfl ?_
  refine R_iadd dL_law_542 (show i + 1 = w32 (i + 1) from (w32_of (by omega) (by omega)).symm) ?_
  refine R_sload dL_law_543 (by omega) (by omega) e1 ?_
  refine R_aload_n dL_law_544 rfl rfl ?_
  refine R_iload dL_law_545 rfl ?_
  refine R_iconst dL_law_547 (v := 2) rfl ?_
  refine R_iadd dL_law_548 (show i + 2 = w32 (i + 2) from (w32_of (by omega) (by omega)).symm) ?_
  refine R_sload dL_law_549 (by omega) (by omega) e2 ?_
  obtain ⟨p550, hp550, hf⟩ := bdE hf
  refine R_callV (As := [aI v1, aI v2]) (st := []) dL_law_550 (ct_X10_around _ _ _ hp550) mwX10_around mvX10_around (Or.inl wd1675) cl10 o_84 rfl rfl ⟨nle, nle, lcel (by omega), lslo (by omega)⟩ nle rfl ?_
  refine R_istore dL_law_553 (show 6 < 9 by decide) rfl rfl ?_
  refine R_aload_n dL_law_555 rfl rfl ?_
  obtain ⟨p556, hp556, hf⟩ := bdE hf
  refine R_callV (As := []) (st := []) dL_law_556 (ct_X10_thrown  _ hp556) mwX10_thrown mvX10_thrown (Or.inl wd1476) cl10 o_84 rfl rfl ⟨nle, nle, lcel (by omega), lslo (by omega)⟩ nle rfl ?_
  refine R_iload dL_law_559 rfl ?_
  obtain ⟨hq, hf⟩ := gdE hf
  refine R_icmp_eq dL_law_561 rfl (fun _ => ?_) (fun h => absurd hq h)
  refine R_iload dL_law_566 rfl ?_
  refine R_if_ne dL_law_568 rfl (fun h568 => ?_) (fun h568 => ?_)
  · replace hf := inegE hf h568
    refine R_goto dL_law_583 rfl ?_
    cases hf
    exact R_subk (K (cells + 1) (slots + 6) (by omega) (by omega)) ⟨rfl, rfl, rfl, rfl, rfl, trivial⟩
  · replace hf := iposE hf h568
    refine R_aload_n dL_law_571 rfl rfl ?_
    refine R_iconst dL_law_572 (v := 0) rfl ?_
    refine R_laload dL_law_573 a_113 (by decide) (by decide) rfl (fun hin573 => ?_)
    refine R_iload dL_law_574 rfl ?_
    refine R_i2l dL_law_576 (fun hin576 => ?_)
    obtain ⟨hq, hf⟩ := gdE hf
    refine R_lcmp dL_law_577 hin573 hin576 (fun c577 hc577 => ?_)
    refine R_if_eq dL_law_578 rfl (fun _ => ?_) (fun h => absurd (hc577.mpr hq) h)
    refine R_goto dL_law_583 rfl ?_
    cases hf
    exact R_subk (K (cells + 1) (slots + 6) (by omega) (by omega)) ⟨rfl, rfl, rfl, rfl, rfl, trivial⟩
def f_law_7 (v1 v2 : Int) (M : Mem) : Option Mem :=
  (f_L_within v1 v2 M).bind fun p600 =>
  (f_X10_within v1 v2 p600.2).bind fun p618 =>
  (f_X10_thrown p618.2).bind fun p624 =>
  if p624 = p600.1 then
  if p600.1 = 0 then
    if p618.2 113 0 = p618.1 then
    some p618.2
    else none
  else
    some p618.2
  else none
set_option maxRecDepth 20000 in
theorem rl_7 {G : Gl} {i : Int} {cells slots : Nat} {v1 v2 : Int} {M res : Mem} (hi0 : 0 ≤ i) (hi1 : i + 6 ≤ (G.2.2.2.2.1 : Nat)) (hL : G.2.2.2.2.1 ≤ 3072) (hcc : cells ≤ 4000) (hss : slots ≤ 300000) (e1 : v1 = sxs G (i + 1)) (e2 : v2 = sxs G (i + 2)) (hf : f_law_7 v1 v2 M = some res) (K : ∀ c s : Nat, c ≤ cells + 2 → s ≤ slots + 12 → Run G true room_1 (miL_law xt) (ZL G) c s 1906 [some (aR 199), some (aR 0), some (aR 84), some (aR 113), some (aI i), none, none, none, none] [] res) : Run G true room_1 (miL_law xt) (ZL G) cells slots 586 [some (aR 199), some (aR 0), some (aR 84), some (aR 113), some (aI i), none, none, none, none] [] M := by
  unfold f_law_7 at hf
  refine R_aload_n dL_law_586 rfl rfl ?_
  refine R_aload_n dL_law_587 rfl rfl ?_
  refine R_iload dL_law_588 rfl ?_
  refine R_iconst dL_law_590 (v := 1) rfl ?_
  refine R_iadd dL_law_591 (show i + 1 = w32 (i + 1) from (w32_of (by omega) (by omega)).symm) ?_
  refine R_sload dL_law_592 (by omega) (by omega) e1 ?_
  refine R_aload_n dL_law_593 rfl rfl ?_
  refine R_iload dL_law_594 rfl ?_
  refine R_iconst dL_law_596 (v := 2) rfl ?_
  refine R_iadd dL_law_597 (show i + 2 = w32 (i + 2) from (w32_of (by omega) (by omega)).symm) ?_
  refine R_sload dL_law_598 (by omega) (by omega) e2 ?_
  refine R_aload_n dL_law_599 rfl rfl ?_
  obtain ⟨p600, hp600, hf⟩ := bdE hf
  refine R_callSW (As := [aR 0, aI v1, aI v2, aR 113]) (st := []) dL_law_600 (ct_L_within _ _ _ hp600) wwL_within wd1028 rfl ⟨nle, nle, lcel (by omega), lslo (by omega)⟩ nle rfl ?_
  refine R_istore dL_law_603 (show 5 < 9 by decide) rfl rfl ?_
  refine R_aload_n dL_law_605 rfl rfl ?_
  refine R_aload_n dL_law_606 rfl rfl ?_
  refine R_iload dL_law_607 rfl ?_
  refine R_iconst dL_law_609 (v := 1) rfl ?_
  refine R_iadd dL_law_610 (show i + 1 = w32 (i + 1) from (w32_of (by omega) (by omega)).symm) ?_
  refine R_sload dL_law_611 (by omega) (by omega) e1 ?_
  refine R_aload_n dL_law_612 rfl rfl ?_
  refine R_iload dL_law_613 rfl ?_
  refine R_iconst dL_law_615 (v := 2) rfl ?_
  refine R_iadd dL_law_616 (show i + 2 = w32 (i + 2) from (w32_of (by omega) (by omega)).symm) ?_
  refine R_sload dL_law_617 (by omega) (by omega) e2 ?_
  obtain ⟨p618, hp618, hf⟩ := bdE hf
  refine R_callV (As := [aI v1, aI v2]) (st := []) dL_law_618 (ct_X10_within _ _ _ hp618) mwX10_within mvX10_within (Or.inl wd1679) cl10 o_84 rfl rfl ⟨nle, nle, lcel (by omega), lslo (by omega)⟩ nle rfl ?_
  refine R_istore dL_law_621 (show 6 < 9 by decide) rfl rfl ?_
  refine R_aload_n dL_law_623 rfl rfl ?_
  obtain ⟨p624, hp624, hf⟩ := bdE hf
  refine R_callV (As := []) (st := []) dL_law_624 (ct_X10_thrown  _ hp624) mwX10_thrown mvX10_thrown (Or.inl wd1476) cl10 o_84 rfl rfl ⟨nle, nle, lcel (by omega), lslo (by omega)⟩ nle rfl ?_
  refine R_iload dL_law_627 rfl ?_
  obtain ⟨hq, hf⟩ := gdE hf
  refine R_icmp_eq dL_law_629 rfl (fun _ => ?_) (fun h => absurd hq h)
  refine R_iload dL_law_634 rfl ?_
  refine R_if_ne dL_law_636 rfl (fun h636 => ?_) (fun h636 => ?_)
  · replace hf := inegE hf h636
    refine R_goto dL_law_651 rfl ?_
    cases hf
    exact R_subk (K (cells + 2) (slots + 12) (by omega) (by omega)) ⟨rfl, rfl, rfl, rfl, rfl, trivial⟩
  · replace hf := iposE hf h636
    refine R_aload_n dL_law_639 rfl rfl ?_
    refine R_iconst dL_law_640 (v := 0) rfl ?_
    refine R_laload dL_law_641 a_113 (by decide) (by decide) rfl (fun hin641 => ?_)
    refine R_iload dL_law_642 rfl ?_
    refine R_i2l dL_law_644 (fun hin644 => ?_)
    obtain ⟨hq, hf⟩ := gdE hf
    refine R_lcmp dL_law_645 hin641 hin644 (fun c645 hc645 => ?_)
    refine R_if_eq dL_law_646 rfl (fun _ => ?_) (fun h => absurd (hc645.mpr hq) h)
    refine R_goto dL_law_651 rfl ?_
    cases hf
    exact R_subk (K (cells + 2) (slots + 12) (by omega) (by omega)) ⟨rfl, rfl, rfl, rfl, rfl, trivial⟩
def f_law_8 (v1 v2 : Int) (M : Mem) : Option Mem :=
  if v2 = 0 then
    (f_L_beside v1 0 M).bind fun p676 =>
    (f_X10_beside v1 0 p676.2).bind fun p702 =>
    (f_X10_thrown p702.2).bind fun p708 =>
    if p708 = p676.1 then
    if p676.1 = 0 then
      if p702.2 113 0 = p702.1 then
      some p702.2
      else none
    else
      some p702.2
    else none
  else
    (f_L_beside v1 1 M).bind fun p676 =>
    (f_X10_beside v1 1 p676.2).bind fun p702 =>
    (f_X10_thrown p702.2).bind fun p708 =>
    if p708 = p676.1 then
    if p676.1 = 0 then
      if p702.2 113 0 = p702.1 then
      some p702.2
      else none
    else
      some p702.2
    else none
set_option maxRecDepth 20000 in
theorem rl_8 {G : Gl} {i : Int} {cells slots : Nat} {v1 v2 : Int} {M res : Mem} (hi0 : 0 ≤ i) (hi1 : i + 6 ≤ (G.2.2.2.2.1 : Nat)) (hL : G.2.2.2.2.1 ≤ 3072) (hcc : cells ≤ 4000) (hss : slots ≤ 300000) (e1 : v1 = sxs G (i + 1)) (e2 : v2 = sxs G (i + 2)) (hf : f_law_8 v1 v2 M = some res) (K : ∀ c s : Nat, c ≤ cells + 2 → s ≤ slots + 12 → Run G true room_1 (miL_law xt) (ZL G) c s 1906 [some (aR 199), some (aR 0), some (aR 84), some (aR 113), some (aI i), none, none, none, none] [] res) : Run G true room_1 (miL_law xt) (ZL G) cells slots 654 [some (aR 199), some (aR 0), some (aR 84), some (aR 113), some (aI i), none, none, none, none] [] M := by
  unfold f_law_8 at hf
  refine R_aload_n dL_law_654 rfl rfl ?_
  refine R_aload_n dL_law_655 rfl rfl ?_
  refine R_iload dL_law_656 rfl ?_
  refine R_iconst dL_law_658 (v := 1) rfl ?_
  refine R_iadd dL_law_659 (show i + 1 = w32 (i + 1) from (w32_of (by omega) (by omega)).symm) ?_
  refine R_sload dL_law_660 (by omega) (by omega) e1 ?_
  refine R_aload_n dL_law_661 rfl rfl ?_
  refine R_iload dL_law_662 rfl ?_
  refine R_iconst dL_law_664 (v := 2) rfl ?_
  refine R_iadd dL_law_665 (show i + 2 = w32 (i + 2) from (w32_of (by omega) (by omega)).symm) ?_
  refine R_sload dL_law_666 (by omega) (by omega) e2 ?_
  refine R_if_eq dL_law_667 rfl (fun h667 => ?_) (fun h667 => ?_)
  · replace hf := iposE hf h667
    refine R_iconst dL_law_674 (v := 0) rfl ?_
    refine R_aload_n dL_law_675 rfl rfl ?_
    obtain ⟨p676, hp676, hf⟩ := bdE hf
    refine R_callSW (As := [aR 0, aI v1, aI 0, aR 113]) (st := []) dL_law_676 (ct_L_beside _ _ _ hp676) wwL_beside wd1064 rfl ⟨nle, nle, lcel (by omega), lslo (by omega)⟩ nle rfl ?_
    refine R_istore dL_law_679 (show 5 < 9 by decide) rfl rfl ?_
    refine R_aload_n dL_law_681 rfl rfl ?_
    refine R_aload_n dL_law_682 rfl rfl ?_
    refine R_iload dL_law_683 rfl ?_
    refine R_iconst dL_law_685 (v := 1) rfl ?_
    refine R_iadd dL_law_686 (show i + 1 = w32 (i + 1) from (w32_of (by omega) (by omega)).symm) ?_
    refine R_sload dL_law_687 (by omega) (by omega) e1 ?_
    refine R_aload_n dL_law_688 rfl rfl ?_
    refine R_iload dL_law_689 rfl ?_
    refine R_iconst dL_law_691 (v := 2) rfl ?_
    refine R_iadd dL_law_692 (show i + 2 = w32 (i + 2) from (w32_of (by omega) (by omega)).symm) ?_
    refine R_sload dL_law_693 (by omega) (by omega) e2 ?_
    refine R_if_eq dL_law_694 rfl (fun _ => ?_) (fun h => absurd h667 h)
    refine R_iconst dL_law_701 (v := 0) rfl ?_
    obtain ⟨p702, hp702, hf⟩ := bdE hf
    refine R_callV (As := [aI v1, aI 0]) (st := []) dL_law_702 (ct_X10_beside _ _ _ hp702) mwX10_beside mvX10_beside (Or.inl wd1695) cl10 o_84 rfl rfl ⟨nle, nle, lcel (by omega), lslo (by omega)⟩ nle rfl ?_
    refine R_istore dL_law_705 (show 6 < 9 by decide) rfl rfl ?_
    refine R_aload_n dL_law_707 rfl rfl ?_
    obtain ⟨p708, hp708, hf⟩ := bdE hf
    refine R_callV (As := []) (st := []) dL_law_708 (ct_X10_thrown  _ hp708) mwX10_thrown mvX10_thrown (Or.inl wd1476) cl10 o_84 rfl rfl ⟨nle, nle, lcel (by omega), lslo (by omega)⟩ nle rfl ?_
    refine R_iload dL_law_711 rfl ?_
    obtain ⟨hq, hf⟩ := gdE hf
    refine R_icmp_eq dL_law_713 rfl (fun _ => ?_) (fun h => absurd hq h)
    refine R_iload dL_law_718 rfl ?_
    refine R_if_ne dL_law_720 rfl (fun h720 => ?_) (fun h720 => ?_)
    · replace hf := inegE hf h720
      refine R_goto dL_law_735 rfl ?_
      cases hf
      exact R_subk (K (cells + 2) (slots + 12) (by omega) (by omega)) ⟨rfl, rfl, rfl, rfl, rfl, trivial⟩
    · replace hf := iposE hf h720
      refine R_aload_n dL_law_723 rfl rfl ?_
      refine R_iconst dL_law_724 (v := 0) rfl ?_
      refine R_laload dL_law_725 a_113 (by decide) (by decide) rfl (fun hin725 => ?_)
      refine R_iload dL_law_726 rfl ?_
      refine R_i2l dL_law_728 (fun hin728 => ?_)
      obtain ⟨hq, hf⟩ := gdE hf
      refine R_lcmp dL_law_729 hin725 hin728 (fun c729 hc729 => ?_)
      refine R_if_eq dL_law_730 rfl (fun _ => ?_) (fun h => absurd (hc729.mpr hq) h)
      refine R_goto dL_law_735 rfl ?_
      cases hf
      exact R_subk (K (cells + 2) (slots + 12) (by omega) (by omega)) ⟨rfl, rfl, rfl, rfl, rfl, trivial⟩
  · replace hf := inegE hf h667
    refine R_iconst dL_law_670 (v := 1) rfl ?_
    refine R_goto dL_law_671 rfl ?_
    refine R_aload_n dL_law_675 rfl rfl ?_
    obtain ⟨p676, hp676, hf⟩ := bdE hf
    refine R_callSW (As := [aR 0, aI v1, aI 1, aR 113]) (st := []) dL_law_676 (ct_L_beside _ _ _ hp676) wwL_beside wd1064 rfl ⟨nle, nle, lcel (by omega), lslo (by omega)⟩ nle rfl ?_
    refine R_istore dL_law_679 (show 5 < 9 by decide) rfl rfl ?_
    refine R_aload_n dL_law_681 rfl rfl ?_
    refine R_aload_n dL_law_682 rfl rfl ?_
    refine R_iload dL_law_683 rfl ?_
    refine R_iconst dL_law_685 (v := 1) rfl ?_
    refine R_iadd dL_law_686 (show i + 1 = w32 (i + 1) from (w32_of (by omega) (by omega)).symm) ?_
    refine R_sload dL_law_687 (by omega) (by omega) e1 ?_
    refine R_aload_n dL_law_688 rfl rfl ?_
    refine R_iload dL_law_689 rfl ?_
    refine R_iconst dL_law_691 (v := 2) rfl ?_
    refine R_iadd dL_law_692 (show i + 2 = w32 (i + 2) from (w32_of (by omega) (by omega)).symm) ?_
    refine R_sload dL_law_693 (by omega) (by omega) e2 ?_
    refine R_if_eq dL_law_694 rfl (fun h => absurd h h667) (fun _ => ?_)
    refine R_iconst dL_law_697 (v := 1) rfl ?_
    refine R_goto dL_law_698 rfl ?_
    obtain ⟨p702, hp702, hf⟩ := bdE hf
    refine R_callV (As := [aI v1, aI 1]) (st := []) dL_law_702 (ct_X10_beside _ _ _ hp702) mwX10_beside mvX10_beside (Or.inl wd1695) cl10 o_84 rfl rfl ⟨nle, nle, lcel (by omega), lslo (by omega)⟩ nle rfl ?_
    refine R_istore dL_law_705 (show 6 < 9 by decide) rfl rfl ?_
    refine R_aload_n dL_law_707 rfl rfl ?_
    obtain ⟨p708, hp708, hf⟩ := bdE hf
    refine R_callV (As := []) (st := []) dL_law_708 (ct_X10_thrown  _ hp708) mwX10_thrown mvX10_thrown (Or.inl wd1476) cl10 o_84 rfl rfl ⟨nle, nle, lcel (by omega), lslo (by omega)⟩ nle rfl ?_
    refine R_iload dL_law_711 rfl ?_
    obtain ⟨hq, hf⟩ := gdE hf
    refine R_icmp_eq dL_law_713 rfl (fun _ => ?_) (fun h => absurd hq h)
    refine R_iload dL_law_718 rfl ?_
    refine R_if_ne dL_law_720 rfl (fun h720 => ?_) (fun h720 => ?_)
    · replace hf := inegE hf h720
      refine R_goto dL_law_735 rfl ?_
      cases hf
      exact R_subk (K (cells + 2) (slots + 12) (by omega) (by omega)) ⟨rfl, rfl, rfl, rfl, rfl, trivial⟩
    · replace hf := iposE hf h720
      refine R_aload_n dL_law_723 rfl rfl ?_
      refine R_iconst dL_law_724 (v := 0) rfl ?_
      refine R_laload dL_law_725 a_113 (by decide) (by decide) rfl (fun hin725 => ?_)
      refine R_iload dL_law_726 rfl ?_
      refine R_i2l dL_law_728 (fun hin728 => ?_)
      obtain ⟨hq, hf⟩ := gdE hf
      refine R_lcmp dL_law_729 hin725 hin728 (fun c729 hc729 => ?_)
      refine R_if_eq dL_law_730 rfl (fun _ => ?_) (fun h => absurd (hc729.mpr hq) h)
      refine R_goto dL_law_735 rfl ?_
      cases hf
      exact R_subk (K (cells + 2) (slots + 12) (by omega) (by omega)) ⟨rfl, rfl, rfl, rfl, rfl, trivial⟩
def f_law_9 (v1 : Int) (M : Mem) : Option Mem :=
  (f_X9_lone v1 M).bind fun p745 =>
  (f_X10_lone v1 p745.2).bind fun p755 =>
  if p745.1 = p755.1 then
  some p755.2
  else none
set_option maxRecDepth 20000 in
theorem rl_9 {G : Gl} {i : Int} {cells slots : Nat} {v1 : Int} {M res : Mem} (hi0 : 0 ≤ i) (hi1 : i + 6 ≤ (G.2.2.2.2.1 : Nat)) (hL : G.2.2.2.2.1 ≤ 3072) (hcc : cells ≤ 4000) (hss : slots ≤ 300000) (e1 : v1 = sxs G (i + 1)) (hf : f_law_9 v1 M = some res) (K : ∀ c s : Nat, c ≤ cells + 2 → s ≤ slots + 12 → Run G true room_1 (miL_law xt) (ZL G) c s 1906 [some (aR 199), some (aR 0), some (aR 84), some (aR 113), some (aI i), none, none, none, none] [] res) : Run G true room_1 (miL_law xt) (ZL G) cells slots 738 [some (aR 199), some (aR 0), some (aR 84), some (aR 113), some (aI i), none, none, none, none] [] M := by
  unfold f_law_9 at hf
  refine R_aload_n dL_law_738 rfl rfl ?_
  refine R_aload_n dL_law_739 rfl rfl ?_
  refine R_iload dL_law_740 rfl ?_
  refine R_iconst dL_law_742 (v := 1) rfl ?_
  refine R_iadd dL_law_743 (show i + 1 = w32 (i + 1) from (w32_of (by omega) (by omega)).symm) ?_
  refine R_sload dL_law_744 (by omega) (by omega) e1 ?_
  obtain ⟨p745, hp745, hf⟩ := bdE hf
  refine R_callV (As := [aI v1]) (st := []) dL_law_745 (ct_X9_lone _ _ hp745) mwX9_lone mvX9_lone (Or.inl wd390) cl9 o_0 rfl rfl ⟨nle, nle, lcel (by omega), lslo (by omega)⟩ nle rfl ?_
  refine R_aload_n dL_law_748 rfl rfl ?_
  refine R_aload_n dL_law_749 rfl rfl ?_
  refine R_iload dL_law_750 rfl ?_
  refine R_iconst dL_law_752 (v := 1) rfl ?_
  refine R_iadd dL_law_753 (show i + 1 = w32 (i + 1) from (w32_of (by omega) (by omega)).symm) ?_
  refine R_sload dL_law_754 (by omega) (by omega) e1 ?_
  obtain ⟨p755, hp755, hf⟩ := bdE hf
  refine R_callV (As := [aI v1]) (st := [aI p745.1]) dL_law_755 (ct_X10_lone _ _ hp755) mwX10_lone mvX10_lone (Or.inl wd1699) cl10 o_84 rfl rfl ⟨nle, nle, lcel (by omega), lslo (by omega)⟩ nle rfl ?_
  obtain ⟨hq, hf⟩ := gdE hf
  refine R_icmp_eq dL_law_758 rfl (fun _ => ?_) (fun h => absurd hq h)
  cases hf
  exact R_subk (K cells slots (by omega) (by omega)) ⟨rfl, rfl, rfl, rfl, rfl, trivial⟩
def f_law_10 (v1 v2 : Int) (M : Mem) : Option Mem :=
  (f_L_count v1 v2 M).bind fun p777 =>
  (f_X10_count v1 v2 p777.2).bind fun p795 =>
  (f_X10_thrown p795.2).bind fun p801 =>
  if p801 = p777.1 then
  if p777.1 = 0 then
    if p795.2 113 0 = p795.1 then
    some p795.2
    else none
  else
    some p795.2
  else none
set_option maxRecDepth 20000 in
theorem rl_10 {G : Gl} {i : Int} {cells slots : Nat} {v1 v2 : Int} {M res : Mem} (hi0 : 0 ≤ i) (hi1 : i + 6 ≤ (G.2.2.2.2.1 : Nat)) (hL : G.2.2.2.2.1 ≤ 3072) (hcc : cells ≤ 4000) (hss : slots ≤ 300000) (e1 : v1 = sxs G (i + 1)) (e2 : v2 = sxs G (i + 2)) (hf : f_law_10 v1 v2 M = some res) (K : ∀ c s : Nat, c ≤ cells + 2 → s ≤ slots + 12 → Run G true room_1 (miL_law xt) (ZL G) c s 1906 [some (aR 199), some (aR 0), some (aR 84), some (aR 113), some (aI i), none, none, none, none] [] res) : Run G true room_1 (miL_law xt) (ZL G) cells slots 763 [some (aR 199), some (aR 0), some (aR 84), some (aR 113), some (aI i), none, none, none, none] [] M := by
  unfold f_law_10 at hf
  refine R_aload_n dL_law_763 rfl rfl ?_
  refine R_aload_n dL_law_764 rfl rfl ?_
  refine R_iload dL_law_765 rfl ?_
  refine R_iconst dL_law_767 (v := 1) rfl ?_
  refine R_iadd dL_law_768 (show i + 1 = w32 (i + 1) from (w32_of (by omega) (by omega)).symm) ?_
  refine R_sload dL_law_769 (by omega) (by omega) e1 ?_
  refine R_aload_n dL_law_770 rfl rfl ?_
  refine R_iload dL_law_771 rfl ?_
  refine R_iconst dL_law_773 (v := 2) rfl ?_
  refine R_iadd dL_law_774 (show i + 2 = w32 (i + 2) from (w32_of (by omega) (by omega)).symm) ?_
  refine R_sload dL_law_775 (by omega) (by omega) e2 ?_
  refine R_aload_n dL_law_776 rfl rfl ?_
  obtain ⟨p777, hp777, hf⟩ := bdE hf
  refine R_callSW (As := [aR 0, aI v1, aI v2, aR 113]) (st := []) dL_law_777 (ct_L_count _ _ _ hp777) wwL_count wd1079 rfl ⟨nle, nle, lcel (by omega), lslo (by omega)⟩ nle rfl ?_
  refine R_istore dL_law_780 (show 5 < 9 by decide) rfl rfl ?_
  refine R_aload_n dL_law_782 rfl rfl ?_
  refine R_aload_n dL_law_783 rfl rfl ?_
  refine R_iload dL_law_784 rfl ?_
  refine R_iconst dL_law_786 (v := 1) rfl ?_
  refine R_iadd dL_law_787 (show i + 1 = w32 (i + 1) from (w32_of (by omega) (by omega)).symm) ?_
  refine R_sload dL_law_788 (by omega) (by omega) e1 ?_
  refine R_aload_n dL_law_789 rfl rfl ?_
  refine R_iload dL_law_790 rfl ?_
  refine R_iconst dL_law_792 (v := 2) rfl ?_
  refine R_iadd dL_law_793 (show i + 2 = w32 (i + 2) from (w32_of (by omega) (by omega)).symm) ?_
  refine R_sload dL_law_794 (by omega) (by omega) e2 ?_
  obtain ⟨p795, hp795, hf⟩ := bdE hf
  refine R_callV (As := [aI v1, aI v2]) (st := []) dL_law_795 (ct_X10_count _ _ _ hp795) mwX10_count mvX10_count (Or.inl wd1703) cl10 o_84 rfl rfl ⟨nle, nle, lcel (by omega), lslo (by omega)⟩ nle rfl ?_
  refine R_istore dL_law_798 (show 6 < 9 by decide) rfl rfl ?_
  refine R_aload_n dL_law_800 rfl rfl ?_
  obtain ⟨p801, hp801, hf⟩ := bdE hf
  refine R_callV (As := []) (st := []) dL_law_801 (ct_X10_thrown  _ hp801) mwX10_thrown mvX10_thrown (Or.inl wd1476) cl10 o_84 rfl rfl ⟨nle, nle, lcel (by omega), lslo (by omega)⟩ nle rfl ?_
  refine R_iload dL_law_804 rfl ?_
  obtain ⟨hq, hf⟩ := gdE hf
  refine R_icmp_eq dL_law_806 rfl (fun _ => ?_) (fun h => absurd hq h)
  refine R_iload dL_law_811 rfl ?_
  refine R_if_ne dL_law_813 rfl (fun h813 => ?_) (fun h813 => ?_)
  · replace hf := inegE hf h813
    refine R_goto dL_law_828 rfl ?_
    cases hf
    exact R_subk (K (cells + 2) (slots + 12) (by omega) (by omega)) ⟨rfl, rfl, rfl, rfl, rfl, trivial⟩
  · replace hf := iposE hf h813
    refine R_aload_n dL_law_816 rfl rfl ?_
    refine R_iconst dL_law_817 (v := 0) rfl ?_
    refine R_laload dL_law_818 a_113 (by decide) (by decide) rfl (fun hin818 => ?_)
    refine R_iload dL_law_819 rfl ?_
    refine R_i2l dL_law_821 (fun hin821 => ?_)
    obtain ⟨hq, hf⟩ := gdE hf
    refine R_lcmp dL_law_822 hin818 hin821 (fun c822 hc822 => ?_)
    refine R_if_eq dL_law_823 rfl (fun _ => ?_) (fun h => absurd (hc822.mpr hq) h)
    refine R_goto dL_law_828 rfl ?_
    cases hf
    exact R_subk (K (cells + 2) (slots + 12) (by omega) (by omega)) ⟨rfl, rfl, rfl, rfl, rfl, trivial⟩
def f_law_11 (M : Mem) : Option Mem :=
  (f_X9_widest M).bind fun p832 =>
  (f_X10_widest p832.2).bind fun p836 =>
  if p832.1 = p836.1 then
  some p836.2
  else none
set_option maxRecDepth 20000 in
theorem rl_11 {G : Gl} {i : Int} {cells slots : Nat} {M res : Mem} (hi0 : 0 ≤ i) (hi1 : i + 6 ≤ (G.2.2.2.2.1 : Nat)) (hL : G.2.2.2.2.1 ≤ 3072) (hcc : cells ≤ 4000) (hss : slots ≤ 300000)  (hf : f_law_11  M = some res) (K : ∀ c s : Nat, c ≤ cells + 2 → s ≤ slots + 12 → Run G true room_1 (miL_law xt) (ZL G) c s 1906 [some (aR 199), some (aR 0), some (aR 84), some (aR 113), some (aI i), none, none, none, none] [] res) : Run G true room_1 (miL_law xt) (ZL G) cells slots 831 [some (aR 199), some (aR 0), some (aR 84), some (aR 113), some (aI i), none, none, none, none] [] M := by
  unfold f_law_11 at hf
  refine R_aload_n dL_law_831 rfl rfl ?_
  obtain ⟨p832, hp832, hf⟩ := bdE hf
  refine R_callV (As := []) (st := []) dL_law_832 (ct_X9_widest  _ hp832) mwX9_widest mvX9_widest (Or.inl wd465) cl9 o_0 rfl rfl ⟨nle, nle, lcel (by omega), lslo (by omega)⟩ nle rfl ?_
  refine R_aload_n dL_law_835 rfl rfl ?_
  obtain ⟨p836, hp836, hf⟩ := bdE hf
  refine R_callV (As := []) (st := [aI p832.1]) dL_law_836 (ct_X10_widest  _ hp836) mwX10_widest mvX10_widest (Or.inl wd1711) cl10 o_84 rfl rfl ⟨nle, nle, lcel (by omega), lslo (by omega)⟩ nle rfl ?_
  obtain ⟨hq, hf⟩ := gdE hf
  refine R_icmp_eq dL_law_839 rfl (fun _ => ?_) (fun h => absurd hq h)
  cases hf
  exact R_subk (K cells slots (by omega) (by omega)) ⟨rfl, rfl, rfl, rfl, rfl, trivial⟩
def f_law_14 (M : Mem) : Option Mem :=
  (f_X9_repairCost M).bind fun p929 =>
  (f_X10_repairCost p929.2).bind fun p933 =>
  if p929.1 = p933.1 then
  some p933.2
  else none
set_option maxRecDepth 20000 in
theorem rl_14 {G : Gl} {i : Int} {cells slots : Nat} {M res : Mem} (hi0 : 0 ≤ i) (hi1 : i + 6 ≤ (G.2.2.2.2.1 : Nat)) (hL : G.2.2.2.2.1 ≤ 3072) (hcc : cells ≤ 4000) (hss : slots ≤ 300000)  (hf : f_law_14  M = some res) (K : ∀ c s : Nat, c ≤ cells + 2 → s ≤ slots + 12 → Run G true room_1 (miL_law xt) (ZL G) c s 1906 [some (aR 199), some (aR 0), some (aR 84), some (aR 113), some (aI i), none, none, none, none] [] res) : Run G true room_1 (miL_law xt) (ZL G) cells slots 928 [some (aR 199), some (aR 0), some (aR 84), some (aR 113), some (aI i), none, none, none, none] [] M := by
  unfold f_law_14 at hf
  refine R_aload_n dL_law_928 rfl rfl ?_
  obtain ⟨p929, hp929, hf⟩ := bdE hf
  refine R_callV (As := []) (st := []) dL_law_929 (ct_X9_repairCost  _ hp929) mwX9_repairCost mvX9_repairCost (Or.inl wd489) cl9 o_0 rfl rfl ⟨nle, nle, lcel (by omega), lslo (by omega)⟩ nle rfl ?_
  refine R_aload_n dL_law_932 rfl rfl ?_
  obtain ⟨p933, hp933, hf⟩ := bdE hf
  refine R_callV (As := []) (st := [aI p929.1]) dL_law_933 (ct_X10_repairCost  _ hp933) mwX10_repairCost mvX10_repairCost (Or.inl wd1723) cl10 o_84 rfl rfl ⟨nle, nle, lcel (by omega), lslo (by omega)⟩ nle rfl ?_
  obtain ⟨hq, hf⟩ := gdE hf
  refine R_icmp_eq dL_law_936 rfl (fun _ => ?_) (fun h => absurd hq h)
  cases hf
  exact R_subk (K cells slots (by omega) (by omega)) ⟨rfl, rfl, rfl, rfl, rfl, trivial⟩
def f_law_15 (M : Mem) : Option Mem :=
  (f_X9_repairSteps M).bind fun p942 =>
  (f_X10_repairSteps p942.2).bind fun p946 =>
  if p942.1 = p946.1 then
  some p946.2
  else none
set_option maxRecDepth 20000 in
theorem rl_15 {G : Gl} {i : Int} {cells slots : Nat} {M res : Mem} (hi0 : 0 ≤ i) (hi1 : i + 6 ≤ (G.2.2.2.2.1 : Nat)) (hL : G.2.2.2.2.1 ≤ 3072) (hcc : cells ≤ 4000) (hss : slots ≤ 300000)  (hf : f_law_15  M = some res) (K : ∀ c s : Nat, c ≤ cells + 2 → s ≤ slots + 12 → Run G true room_1 (miL_law xt) (ZL G) c s 1906 [some (aR 199), some (aR 0), some (aR 84), some (aR 113), some (aI i), none, none, none, none] [] res) : Run G true room_1 (miL_law xt) (ZL G) cells slots 941 [some (aR 199), some (aR 0), some (aR 84), some (aR 113), some (aI i), none, none, none, none] [] M := by
  unfold f_law_15 at hf
  refine R_aload_n dL_law_941 rfl rfl ?_
  obtain ⟨p942, hp942, hf⟩ := bdE hf
  refine R_callV (As := []) (st := []) dL_law_942 (ct_X9_repairSteps  _ hp942) mwX9_repairSteps mvX9_repairSteps (Or.inl wd534) cl9 o_0 rfl rfl ⟨nle, nle, lcel (by omega), lslo (by omega)⟩ nle rfl ?_
  refine R_aload_n dL_law_945 rfl rfl ?_
  obtain ⟨p946, hp946, hf⟩ := bdE hf
  refine R_callV (As := []) (st := [aI p942.1]) dL_law_946 (ct_X10_repairSteps  _ hp946) mwX10_repairSteps mvX10_repairSteps (Or.inl wd1743) cl10 o_84 rfl rfl ⟨nle, nle, lcel (by omega), lslo (by omega)⟩ nle rfl ?_
  obtain ⟨hq, hf⟩ := gdE hf
  refine R_icmp_eq dL_law_949 rfl (fun _ => ?_) (fun h => absurd hq h)
  cases hf
  exact R_subk (K cells slots (by omega) (by omega)) ⟨rfl, rfl, rfl, rfl, rfl, trivial⟩
def f_law_16 (v1 v2 : Int) (M : Mem) : Option Mem :=
  (f_L_repairStep v1 v2 M).bind fun p968 =>
  (f_X10_repairStep v1 v2 p968.2).bind fun p986 =>
  (f_X10_thrown p986.2).bind fun p992 =>
  if p992 = p968.1 then
  if p968.1 = 0 then
    if p986.2 113 0 = p986.1 then
    some p986.2
    else none
  else
    some p986.2
  else none
set_option maxRecDepth 20000 in
theorem rl_16 {G : Gl} {i : Int} {cells slots : Nat} {v1 v2 : Int} {M res : Mem} (hi0 : 0 ≤ i) (hi1 : i + 6 ≤ (G.2.2.2.2.1 : Nat)) (hL : G.2.2.2.2.1 ≤ 3072) (hcc : cells ≤ 4000) (hss : slots ≤ 300000) (e1 : v1 = sxs G (i + 1)) (e2 : v2 = sxs G (i + 2)) (hf : f_law_16 v1 v2 M = some res) (K : ∀ c s : Nat, c ≤ cells + 2 → s ≤ slots + 12 → Run G true room_1 (miL_law xt) (ZL G) c s 1906 [some (aR 199), some (aR 0), some (aR 84), some (aR 113), some (aI i), none, none, none, none] [] res) : Run G true room_1 (miL_law xt) (ZL G) cells slots 954 [some (aR 199), some (aR 0), some (aR 84), some (aR 113), some (aI i), none, none, none, none] [] M := by
  unfold f_law_16 at hf
  refine R_aload_n dL_law_954 rfl rfl ?_
  refine R_aload_n dL_law_955 rfl rfl ?_
  refine R_iload dL_law_956 rfl ?_
  refine R_iconst dL_law_958 (v := 1) rfl ?_
  refine R_iadd dL_law_959 (show i + 1 = w32 (i + 1) from (w32_of (by omega) (by omega)).symm) ?_
  refine R_sload dL_law_960 (by omega) (by omega) e1 ?_
  refine R_aload_n dL_law_961 rfl rfl ?_
  refine R_iload dL_law_962 rfl ?_
  refine R_iconst dL_law_964 (v := 2) rfl ?_
  refine R_iadd dL_law_965 (show i + 2 = w32 (i + 2) from (w32_of (by omega) (by omega)).symm) ?_
  refine R_sload dL_law_966 (by omega) (by omega) e2 ?_
  refine R_aload_n dL_law_967 rfl rfl ?_
  obtain ⟨p968, hp968, hf⟩ := bdE hf
  refine R_callSW (As := [aR 0, aI v1, aI v2, aR 113]) (st := []) dL_law_968 (ct_L_repairStep _ _ _ hp968) wwL_repairStep wd1097 rfl ⟨nle, nle, lcel (by omega), lslo (by omega)⟩ nle rfl ?_
  refine R_istore dL_law_971 (show 5 < 9 by decide) rfl rfl ?_
  refine R_aload_n dL_law_973 rfl rfl ?_
  refine R_aload_n dL_law_974 rfl rfl ?_
  refine R_iload dL_law_975 rfl ?_
  refine R_iconst dL_law_977 (v := 1) rfl ?_
  refine R_iadd dL_law_978 (show i + 1 = w32 (i + 1) from (w32_of (by omega) (by omega)).symm) ?_
  refine R_sload dL_law_979 (by omega) (by omega) e1 ?_
  refine R_aload_n dL_law_980 rfl rfl ?_
  refine R_iload dL_law_981 rfl ?_
  refine R_iconst dL_law_983 (v := 2) rfl ?_
  refine R_iadd dL_law_984 (show i + 2 = w32 (i + 2) from (w32_of (by omega) (by omega)).symm) ?_
  refine R_sload dL_law_985 (by omega) (by omega) e2 ?_
  obtain ⟨p986, hp986, hf⟩ := bdE hf
  refine R_callV (As := [aI v1, aI v2]) (st := []) dL_law_986 (ct_X10_repairStep _ _ _ hp986) mwX10_repairStep mvX10_repairStep (Or.inl wd1755) cl10 o_84 rfl rfl ⟨nle, nle, lcel (by omega), lslo (by omega)⟩ nle rfl ?_
  refine R_istore dL_law_989 (show 6 < 9 by decide) rfl rfl ?_
  refine R_aload_n dL_law_991 rfl rfl ?_
  obtain ⟨p992, hp992, hf⟩ := bdE hf
  refine R_callV (As := []) (st := []) dL_law_992 (ct_X10_thrown  _ hp992) mwX10_thrown mvX10_thrown (Or.inl wd1476) cl10 o_84 rfl rfl ⟨nle, nle, lcel (by omega), lslo (by omega)⟩ nle rfl ?_
  refine R_iload dL_law_995 rfl ?_
  obtain ⟨hq, hf⟩ := gdE hf
  refine R_icmp_eq dL_law_997 rfl (fun _ => ?_) (fun h => absurd hq h)
  refine R_iload dL_law_1002 rfl ?_
  refine R_if_ne dL_law_1004 rfl (fun h1004 => ?_) (fun h1004 => ?_)
  · replace hf := inegE hf h1004
    refine R_goto dL_law_1019 rfl ?_
    cases hf
    exact R_subk (K (cells + 1) (slots + 6) (by omega) (by omega)) ⟨rfl, rfl, rfl, rfl, rfl, trivial⟩
  · replace hf := iposE hf h1004
    refine R_aload_n dL_law_1007 rfl rfl ?_
    refine R_iconst dL_law_1008 (v := 0) rfl ?_
    refine R_laload dL_law_1009 a_113 (by decide) (by decide) rfl (fun hin1009 => ?_)
    refine R_iload dL_law_1010 rfl ?_
    refine R_i2l dL_law_1012 (fun hin1012 => ?_)
    obtain ⟨hq, hf⟩ := gdE hf
    refine R_lcmp dL_law_1013 hin1009 hin1012 (fun c1013 hc1013 => ?_)
    refine R_if_eq dL_law_1014 rfl (fun _ => ?_) (fun h => absurd (hc1013.mpr hq) h)
    refine R_goto dL_law_1019 rfl ?_
    cases hf
    exact R_subk (K (cells + 1) (slots + 6) (by omega) (by omega)) ⟨rfl, rfl, rfl, rfl, rfl, trivial⟩
def f_law_17 (v1 : Int) (M : Mem) : Option Mem :=
  (f_L_costWithout v1 M).bind fun p1030 =>
  (f_X10_costWithout v1 p1030.2).bind fun p1042 =>
  (f_X10_thrown p1042.2).bind fun p1048 =>
  if p1048 = p1030.1 then
  if p1030.1 = 0 then
    if p1042.2 113 0 = p1042.1 then
    some p1042.2
    else none
  else
    some p1042.2
  else none
set_option maxRecDepth 20000 in
theorem rl_17 {G : Gl} {i : Int} {cells slots : Nat} {v1 : Int} {M res : Mem} (hi0 : 0 ≤ i) (hi1 : i + 6 ≤ (G.2.2.2.2.1 : Nat)) (hL : G.2.2.2.2.1 ≤ 3072) (hcc : cells ≤ 4000) (hss : slots ≤ 300000) (e1 : v1 = sxs G (i + 1)) (hf : f_law_17 v1 M = some res) (K : ∀ c s : Nat, c ≤ cells + 2 → s ≤ slots + 12 → Run G true room_1 (miL_law xt) (ZL G) c s 1906 [some (aR 199), some (aR 0), some (aR 84), some (aR 113), some (aI i), none, none, none, none] [] res) : Run G true room_1 (miL_law xt) (ZL G) cells slots 1022 [some (aR 199), some (aR 0), some (aR 84), some (aR 113), some (aI i), none, none, none, none] [] M := by
  unfold f_law_17 at hf
  refine R_aload_n dL_law_1022 rfl rfl ?_
  refine R_aload_n dL_law_1023 rfl rfl ?_
  refine R_iload dL_law_1024 rfl ?_
  refine R_iconst dL_law_1026 (v := 1) rfl ?_
  refine R_iadd dL_law_1027 (show i + 1 = w32 (i + 1) from (w32_of (by omega) (by omega)).symm) ?_
  refine R_sload dL_law_1028 (by omega) (by omega) e1 ?_
  refine R_aload_n dL_law_1029 rfl rfl ?_
  obtain ⟨p1030, hp1030, hf⟩ := bdE hf
  refine R_callSW (As := [aR 0, aI v1, aR 113]) (st := []) dL_law_1030 (ct_L_costWithout _ _ hp1030) wwL_costWithout wd1106 rfl ⟨nle, nle, lcel (by omega), lslo (by omega)⟩ nle rfl ?_
  refine R_istore dL_law_1033 (show 5 < 9 by decide) rfl rfl ?_
  refine R_aload_n dL_law_1035 rfl rfl ?_
  refine R_aload_n dL_law_1036 rfl rfl ?_
  refine R_iload dL_law_1037 rfl ?_
  refine R_iconst dL_law_1039 (v := 1) rfl ?_
  refine R_iadd dL_law_1040 (show i + 1 = w32 (i + 1) from (w32_of (by omega) (by omega)).symm) ?_
  refine R_sload dL_law_1041 (by omega) (by omega) e1 ?_
  obtain ⟨p1042, hp1042, hf⟩ := bdE hf
  refine R_callV (As := [aI v1]) (st := []) dL_law_1042 (ct_X10_costWithout _ _ hp1042) mwX10_costWithout mvX10_costWithout (Or.inl wd1759) cl10 o_84 rfl rfl ⟨nle, nle, lcel (by omega), lslo (by omega)⟩ nle rfl ?_
  refine R_istore dL_law_1045 (show 6 < 9 by decide) rfl rfl ?_
  refine R_aload_n dL_law_1047 rfl rfl ?_
  obtain ⟨p1048, hp1048, hf⟩ := bdE hf
  refine R_callV (As := []) (st := []) dL_law_1048 (ct_X10_thrown  _ hp1048) mwX10_thrown mvX10_thrown (Or.inl wd1476) cl10 o_84 rfl rfl ⟨nle, nle, lcel (by omega), lslo (by omega)⟩ nle rfl ?_
  refine R_iload dL_law_1051 rfl ?_
  obtain ⟨hq, hf⟩ := gdE hf
  refine R_icmp_eq dL_law_1053 rfl (fun _ => ?_) (fun h => absurd hq h)
  refine R_iload dL_law_1058 rfl ?_
  refine R_if_ne dL_law_1060 rfl (fun h1060 => ?_) (fun h1060 => ?_)
  · replace hf := inegE hf h1060
    refine R_goto dL_law_1075 rfl ?_
    cases hf
    exact R_subk (K (cells + 1) (slots + 6) (by omega) (by omega)) ⟨rfl, rfl, rfl, rfl, rfl, trivial⟩
  · replace hf := iposE hf h1060
    refine R_aload_n dL_law_1063 rfl rfl ?_
    refine R_iconst dL_law_1064 (v := 0) rfl ?_
    refine R_laload dL_law_1065 a_113 (by decide) (by decide) rfl (fun hin1065 => ?_)
    refine R_iload dL_law_1066 rfl ?_
    refine R_i2l dL_law_1068 (fun hin1068 => ?_)
    obtain ⟨hq, hf⟩ := gdE hf
    refine R_lcmp dL_law_1069 hin1065 hin1068 (fun c1069 hc1069 => ?_)
    refine R_if_eq dL_law_1070 rfl (fun _ => ?_) (fun h => absurd (hc1069.mpr hq) h)
    refine R_goto dL_law_1075 rfl ?_
    cases hf
    exact R_subk (K (cells + 1) (slots + 6) (by omega) (by omega)) ⟨rfl, rfl, rfl, rfl, rfl, trivial⟩
def f_law_18 (M : Mem) : Option Mem :=
  (f_X9_culprit M).bind fun p1079 =>
  (f_X10_culprit p1079.2).bind fun p1083 =>
  if p1079.1 = p1083.1 then
  some p1083.2
  else none
set_option maxRecDepth 20000 in
theorem rl_18 {G : Gl} {i : Int} {cells slots : Nat} {M res : Mem} (hi0 : 0 ≤ i) (hi1 : i + 6 ≤ (G.2.2.2.2.1 : Nat)) (hL : G.2.2.2.2.1 ≤ 3072) (hcc : cells ≤ 4000) (hss : slots ≤ 300000)  (hf : f_law_18  M = some res) (K : ∀ c s : Nat, c ≤ cells + 2 → s ≤ slots + 12 → Run G true room_1 (miL_law xt) (ZL G) c s 1906 [some (aR 199), some (aR 0), some (aR 84), some (aR 113), some (aI i), none, none, none, none] [] res) : Run G true room_1 (miL_law xt) (ZL G) cells slots 1078 [some (aR 199), some (aR 0), some (aR 84), some (aR 113), some (aI i), none, none, none, none] [] M := by
  unfold f_law_18 at hf
  refine R_aload_n dL_law_1078 rfl rfl ?_
  obtain ⟨p1079, hp1079, hf⟩ := bdE hf
  refine R_callV (As := []) (st := []) dL_law_1079 (ct_X9_culprit  _ hp1079) mwX9_culprit mvX9_culprit (Or.inl wd538) cl9 o_0 rfl rfl ⟨nle, nle, lcel (by omega), lslo (by omega)⟩ nle rfl ?_
  refine R_aload_n dL_law_1082 rfl rfl ?_
  obtain ⟨p1083, hp1083, hf⟩ := bdE hf
  refine R_callV (As := []) (st := [aI p1079.1]) dL_law_1083 (ct_X10_culprit  _ hp1083) mwX10_culprit mvX10_culprit (Or.inl wd1763) cl10 o_84 rfl rfl ⟨nle, nle, lcel (by omega), lslo (by omega)⟩ nle rfl ?_
  obtain ⟨hq, hf⟩ := gdE hf
  refine R_icmp_eq dL_law_1086 rfl (fun _ => ?_) (fun h => absurd hq h)
  cases hf
  exact R_subk (K cells slots (by omega) (by omega)) ⟨rfl, rfl, rfl, rfl, rfl, trivial⟩
def f_law_19 (v1 : Int) (M : Mem) : Option Mem :=
  (f_L_markAt v1 M).bind fun p1099 =>
  (f_X10_markAt v1 p1099.2).bind fun p1111 =>
  (f_X10_thrown p1111.2).bind fun p1117 =>
  if p1117 = p1099.1 then
  if p1099.1 = 0 then
    if p1111.2 113 0 = p1111.1 then
    some p1111.2
    else none
  else
    some p1111.2
  else none
set_option maxRecDepth 20000 in
theorem rl_19 {G : Gl} {i : Int} {cells slots : Nat} {v1 : Int} {M res : Mem} (hi0 : 0 ≤ i) (hi1 : i + 6 ≤ (G.2.2.2.2.1 : Nat)) (hL : G.2.2.2.2.1 ≤ 3072) (hcc : cells ≤ 4000) (hss : slots ≤ 300000) (e1 : v1 = sxs G (i + 1)) (hf : f_law_19 v1 M = some res) (K : ∀ c s : Nat, c ≤ cells + 2 → s ≤ slots + 12 → Run G true room_1 (miL_law xt) (ZL G) c s 1906 [some (aR 199), some (aR 0), some (aR 84), some (aR 113), some (aI i), none, none, none, none] [] res) : Run G true room_1 (miL_law xt) (ZL G) cells slots 1091 [some (aR 199), some (aR 0), some (aR 84), some (aR 113), some (aI i), none, none, none, none] [] M := by
  unfold f_law_19 at hf
  refine R_aload_n dL_law_1091 rfl rfl ?_
  refine R_aload_n dL_law_1092 rfl rfl ?_
  refine R_iload dL_law_1093 rfl ?_
  refine R_iconst dL_law_1095 (v := 1) rfl ?_
  refine R_iadd dL_law_1096 (show i + 1 = w32 (i + 1) from (w32_of (by omega) (by omega)).symm) ?_
  refine R_sload dL_law_1097 (by omega) (by omega) e1 ?_
  refine R_aload_n dL_law_1098 rfl rfl ?_
  obtain ⟨p1099, hp1099, hf⟩ := bdE hf
  refine R_callSW (As := [aR 0, aI v1, aR 113]) (st := []) dL_law_1099 (ct_L_markAt _ _ hp1099) wwL_markAt wd1113 rfl ⟨nle, nle, lcel (by omega), lslo (by omega)⟩ nle rfl ?_
  refine R_istore dL_law_1102 (show 5 < 9 by decide) rfl rfl ?_
  refine R_aload_n dL_law_1104 rfl rfl ?_
  refine R_aload_n dL_law_1105 rfl rfl ?_
  refine R_iload dL_law_1106 rfl ?_
  refine R_iconst dL_law_1108 (v := 1) rfl ?_
  refine R_iadd dL_law_1109 (show i + 1 = w32 (i + 1) from (w32_of (by omega) (by omega)).symm) ?_
  refine R_sload dL_law_1110 (by omega) (by omega) e1 ?_
  obtain ⟨p1111, hp1111, hf⟩ := bdE hf
  refine R_callV (As := [aI v1]) (st := []) dL_law_1111 (ct_X10_markAt _ _ hp1111) mwX10_markAt mvX10_markAt (Or.inl wd1767) cl10 o_84 rfl rfl ⟨nle, nle, lcel (by omega), lslo (by omega)⟩ nle rfl ?_
  refine R_istore dL_law_1114 (show 6 < 9 by decide) rfl rfl ?_
  refine R_aload_n dL_law_1116 rfl rfl ?_
  obtain ⟨p1117, hp1117, hf⟩ := bdE hf
  refine R_callV (As := []) (st := []) dL_law_1117 (ct_X10_thrown  _ hp1117) mwX10_thrown mvX10_thrown (Or.inl wd1476) cl10 o_84 rfl rfl ⟨nle, nle, lcel (by omega), lslo (by omega)⟩ nle rfl ?_
  refine R_iload dL_law_1120 rfl ?_
  obtain ⟨hq, hf⟩ := gdE hf
  refine R_icmp_eq dL_law_1122 rfl (fun _ => ?_) (fun h => absurd hq h)
  refine R_iload dL_law_1127 rfl ?_
  refine R_if_ne dL_law_1129 rfl (fun h1129 => ?_) (fun h1129 => ?_)
  · replace hf := inegE hf h1129
    refine R_goto dL_law_1144 rfl ?_
    cases hf
    exact R_subk (K (cells + 1) (slots + 6) (by omega) (by omega)) ⟨rfl, rfl, rfl, rfl, rfl, trivial⟩
  · replace hf := iposE hf h1129
    refine R_aload_n dL_law_1132 rfl rfl ?_
    refine R_iconst dL_law_1133 (v := 0) rfl ?_
    refine R_laload dL_law_1134 a_113 (by decide) (by decide) rfl (fun hin1134 => ?_)
    refine R_iload dL_law_1135 rfl ?_
    refine R_i2l dL_law_1137 (fun hin1137 => ?_)
    obtain ⟨hq, hf⟩ := gdE hf
    refine R_lcmp dL_law_1138 hin1134 hin1137 (fun c1138 hc1138 => ?_)
    refine R_if_eq dL_law_1139 rfl (fun _ => ?_) (fun h => absurd (hc1138.mpr hq) h)
    refine R_goto dL_law_1144 rfl ?_
    cases hf
    exact R_subk (K (cells + 1) (slots + 6) (by omega) (by omega)) ⟨rfl, rfl, rfl, rfl, rfl, trivial⟩
def f_law_20 (M : Mem) : Option Mem :=
  (f_X9_report M).bind fun p1148 =>
  (f_X10_report p1148.2).bind fun p1152 =>
  if p1148.1 = p1152.1 then
  some p1152.2
  else none
set_option maxRecDepth 20000 in
theorem rl_20 {G : Gl} {i : Int} {cells slots : Nat} {M res : Mem} (hi0 : 0 ≤ i) (hi1 : i + 6 ≤ (G.2.2.2.2.1 : Nat)) (hL : G.2.2.2.2.1 ≤ 3072) (hcc : cells ≤ 4000) (hss : slots ≤ 300000)  (hf : f_law_20  M = some res) (K : ∀ c s : Nat, c ≤ cells + 2 → s ≤ slots + 12 → Run G true room_1 (miL_law xt) (ZL G) c s 1906 [some (aR 199), some (aR 0), some (aR 84), some (aR 113), some (aI i), none, none, none, none] [] res) : Run G true room_1 (miL_law xt) (ZL G) cells slots 1147 [some (aR 199), some (aR 0), some (aR 84), some (aR 113), some (aI i), none, none, none, none] [] M := by
  unfold f_law_20 at hf
  refine R_aload_n dL_law_1147 rfl rfl ?_
  obtain ⟨p1148, hp1148, hf⟩ := bdE hf
  refine R_callV (As := []) (st := []) dL_law_1148 (ct_X9_report  _ hp1148) mwX9_report mvX9_report (Or.inl wd576) cl9 o_0 rfl rfl ⟨nle, nle, lcel (by omega), lslo (by omega)⟩ nle rfl ?_
  refine R_aload_n dL_law_1151 rfl rfl ?_
  obtain ⟨p1152, hp1152, hf⟩ := bdE hf
  refine R_callV (As := []) (st := [aI p1148.1]) dL_law_1152 (ct_X10_report  _ hp1152) mwX10_report mvX10_report (Or.inl wd1771) cl10 o_84 rfl rfl ⟨nle, nle, lcel (by omega), lslo (by omega)⟩ nle rfl ?_
  obtain ⟨hq, hf⟩ := gdE hf
  refine R_icmp_eq dL_law_1155 rfl (fun _ => ?_) (fun h => absurd hq h)
  cases hf
  exact R_subk (K cells slots (by omega) (by omega)) ⟨rfl, rfl, rfl, rfl, rfl, trivial⟩
def f_law_21 (v1 : Int) (M : Mem) : Option Mem :=
  (f_X9_reportByte v1 M).bind fun p1167 =>
  (f_X10_reportByte v1 M).bind fun p1177 =>
  if p1167 = p1177.1 then
  some p1177.2
  else none
set_option maxRecDepth 20000 in
theorem rl_21 {G : Gl} {i : Int} {cells slots : Nat} {v1 : Int} {M res : Mem} (hi0 : 0 ≤ i) (hi1 : i + 6 ≤ (G.2.2.2.2.1 : Nat)) (hL : G.2.2.2.2.1 ≤ 3072) (hcc : cells ≤ 4000) (hss : slots ≤ 300000) (e1 : v1 = sxs G (i + 1)) (hf : f_law_21 v1 M = some res) (K : ∀ c s : Nat, c ≤ cells + 2 → s ≤ slots + 12 → Run G true room_1 (miL_law xt) (ZL G) c s 1906 [some (aR 199), some (aR 0), some (aR 84), some (aR 113), some (aI i), none, none, none, none] [] res) : Run G true room_1 (miL_law xt) (ZL G) cells slots 1160 [some (aR 199), some (aR 0), some (aR 84), some (aR 113), some (aI i), none, none, none, none] [] M := by
  unfold f_law_21 at hf
  refine R_aload_n dL_law_1160 rfl rfl ?_
  refine R_aload_n dL_law_1161 rfl rfl ?_
  refine R_iload dL_law_1162 rfl ?_
  refine R_iconst dL_law_1164 (v := 1) rfl ?_
  refine R_iadd dL_law_1165 (show i + 1 = w32 (i + 1) from (w32_of (by omega) (by omega)).symm) ?_
  refine R_sload dL_law_1166 (by omega) (by omega) e1 ?_
  obtain ⟨p1167, hp1167, hf⟩ := bdE hf
  refine R_callV (As := [aI v1]) (st := []) dL_law_1167 (ct_X9_reportByte _ _ hp1167) mwX9_reportByte mvX9_reportByte (Or.inl wd594) cl9 o_0 rfl rfl ⟨nle, nle, lcel (by omega), lslo (by omega)⟩ nle rfl ?_
  refine R_aload_n dL_law_1170 rfl rfl ?_
  refine R_aload_n dL_law_1171 rfl rfl ?_
  refine R_iload dL_law_1172 rfl ?_
  refine R_iconst dL_law_1174 (v := 1) rfl ?_
  refine R_iadd dL_law_1175 (show i + 1 = w32 (i + 1) from (w32_of (by omega) (by omega)).symm) ?_
  refine R_sload dL_law_1176 (by omega) (by omega) e1 ?_
  obtain ⟨p1177, hp1177, hf⟩ := bdE hf
  refine R_callV (As := [aI v1]) (st := [aI p1167]) dL_law_1177 (ct_X10_reportByte _ _ hp1177) mwX10_reportByte mvX10_reportByte (Or.inl wd1779) cl10 o_84 rfl rfl ⟨nle, nle, lcel (by omega), lslo (by omega)⟩ nle rfl ?_
  obtain ⟨hq, hf⟩ := gdE hf
  refine R_icmp_eq dL_law_1180 rfl (fun _ => ?_) (fun h => absurd hq h)
  cases hf
  exact R_subk (K cells slots (by omega) (by omega)) ⟨rfl, rfl, rfl, rfl, rfl, trivial⟩
def f_law_22 (v1 v2 : Int) (M : Mem) : Option Mem :=
  (f_L_insert v1 v2 M).bind fun p1199 =>
  (f_X10_insert v1 v2 p1199.2).bind fun p1217 =>
  (f_X10_thrown p1217.2).bind fun p1223 =>
  if p1223 = p1199.1 then
  if p1199.1 = 0 then
    if p1217.2 113 0 = p1217.1 then
    some p1217.2
    else none
  else
    some p1217.2
  else none
set_option maxRecDepth 20000 in
theorem rl_22 {G : Gl} {i : Int} {cells slots : Nat} {v1 v2 : Int} {M res : Mem} (hi0 : 0 ≤ i) (hi1 : i + 6 ≤ (G.2.2.2.2.1 : Nat)) (hL : G.2.2.2.2.1 ≤ 3072) (hcc : cells ≤ 4000) (hss : slots ≤ 300000) (e1 : v1 = sxs G (i + 1)) (e2 : v2 = sxs G (i + 2)) (hf : f_law_22 v1 v2 M = some res) (K : ∀ c s : Nat, c ≤ cells + 2 → s ≤ slots + 12 → Run G true room_1 (miL_law xt) (ZL G) c s 1906 [some (aR 199), some (aR 0), some (aR 84), some (aR 113), some (aI i), none, none, none, none] [] res) : Run G true room_1 (miL_law xt) (ZL G) cells slots 1185 [some (aR 199), some (aR 0), some (aR 84), some (aR 113), some (aI i), none, none, none, none] [] M := by
  unfold f_law_22 at hf
  refine R_aload_n dL_law_1185 rfl rfl ?_
  refine R_aload_n dL_law_1186 rfl rfl ?_
  refine R_iload dL_law_1187 rfl ?_
  refine R_iconst dL_law_1189 (v := 1) rfl ?_
  refine R_iadd dL_law_1190 (show i + 1 = w32 (i + 1) from (w32_of (by omega) (by omega)).symm) ?_
  refine R_sload dL_law_1191 (by omega) (by omega) e1 ?_
  refine R_aload_n dL_law_1192 rfl rfl ?_
  refine R_iload dL_law_1193 rfl ?_
  refine R_iconst dL_law_1195 (v := 2) rfl ?_
  refine R_iadd dL_law_1196 (show i + 2 = w32 (i + 2) from (w32_of (by omega) (by omega)).symm) ?_
  refine R_sload dL_law_1197 (by omega) (by omega) e2 ?_
  refine R_aload_n dL_law_1198 rfl rfl ?_
  obtain ⟨p1199, hp1199, hf⟩ := bdE hf
  refine R_callSW (As := [aR 0, aI v1, aI v2, aR 113]) (st := []) dL_law_1199 (ct_L_insert _ _ _ hp1199) wwL_insert wd1129 rfl ⟨nle, nle, lcel (by omega), lslo (by omega)⟩ nle rfl ?_
  refine R_istore dL_law_1202 (show 5 < 9 by decide) rfl rfl ?_
  refine R_aload_n dL_law_1204 rfl rfl ?_
  refine R_aload_n dL_law_1205 rfl rfl ?_
  refine R_iload dL_law_1206 rfl ?_
  refine R_iconst dL_law_1208 (v := 1) rfl ?_
  refine R_iadd dL_law_1209 (show i + 1 = w32 (i + 1) from (w32_of (by omega) (by omega)).symm) ?_
  refine R_sload dL_law_1210 (by omega) (by omega) e1 ?_
  refine R_aload_n dL_law_1211 rfl rfl ?_
  refine R_iload dL_law_1212 rfl ?_
  refine R_iconst dL_law_1214 (v := 2) rfl ?_
  refine R_iadd dL_law_1215 (show i + 2 = w32 (i + 2) from (w32_of (by omega) (by omega)).symm) ?_
  refine R_sload dL_law_1216 (by omega) (by omega) e2 ?_
  obtain ⟨p1217, hp1217, hf⟩ := bdE hf
  refine R_callV (As := [aI v1, aI v2]) (st := []) dL_law_1217 (ct_X10_insert _ _ _ hp1217) mwX10_insert mvX10_insert (Or.inl wd1783) cl10 o_84 rfl rfl ⟨nle, nle, lcel (by omega), lslo (by omega)⟩ nle rfl ?_
  refine R_istore dL_law_1220 (show 6 < 9 by decide) rfl rfl ?_
  refine R_aload_n dL_law_1222 rfl rfl ?_
  obtain ⟨p1223, hp1223, hf⟩ := bdE hf
  refine R_callV (As := []) (st := []) dL_law_1223 (ct_X10_thrown  _ hp1223) mwX10_thrown mvX10_thrown (Or.inl wd1476) cl10 o_84 rfl rfl ⟨nle, nle, lcel (by omega), lslo (by omega)⟩ nle rfl ?_
  refine R_iload dL_law_1226 rfl ?_
  obtain ⟨hq, hf⟩ := gdE hf
  refine R_icmp_eq dL_law_1228 rfl (fun _ => ?_) (fun h => absurd hq h)
  refine R_iload dL_law_1233 rfl ?_
  refine R_if_ne dL_law_1235 rfl (fun h1235 => ?_) (fun h1235 => ?_)
  · replace hf := inegE hf h1235
    refine R_goto dL_law_1250 rfl ?_
    cases hf
    exact R_subk (K (cells + 2) (slots + 12) (by omega) (by omega)) ⟨rfl, rfl, rfl, rfl, rfl, trivial⟩
  · replace hf := iposE hf h1235
    refine R_aload_n dL_law_1238 rfl rfl ?_
    refine R_iconst dL_law_1239 (v := 0) rfl ?_
    refine R_laload dL_law_1240 a_113 (by decide) (by decide) rfl (fun hin1240 => ?_)
    refine R_iload dL_law_1241 rfl ?_
    refine R_i2l dL_law_1243 (fun hin1243 => ?_)
    obtain ⟨hq, hf⟩ := gdE hf
    refine R_lcmp dL_law_1244 hin1240 hin1243 (fun c1244 hc1244 => ?_)
    refine R_if_eq dL_law_1245 rfl (fun _ => ?_) (fun h => absurd (hc1244.mpr hq) h)
    refine R_goto dL_law_1250 rfl ?_
    cases hf
    exact R_subk (K (cells + 2) (slots + 12) (by omega) (by omega)) ⟨rfl, rfl, rfl, rfl, rfl, trivial⟩
def f_law_23 (v1 v2 : Int) (M : Mem) : Option Mem :=
  (f_L_erase v1 v2 M).bind fun p1267 =>
  (f_X10_erase v1 v2 p1267.2).bind fun p1285 =>
  (f_X10_thrown p1285.2).bind fun p1291 =>
  if p1291 = p1267.1 then
  if p1267.1 = 0 then
    if p1285.2 113 0 = p1285.1 then
    some p1285.2
    else none
  else
    some p1285.2
  else none
set_option maxRecDepth 20000 in
theorem rl_23 {G : Gl} {i : Int} {cells slots : Nat} {v1 v2 : Int} {M res : Mem} (hi0 : 0 ≤ i) (hi1 : i + 6 ≤ (G.2.2.2.2.1 : Nat)) (hL : G.2.2.2.2.1 ≤ 3072) (hcc : cells ≤ 4000) (hss : slots ≤ 300000) (e1 : v1 = sxs G (i + 1)) (e2 : v2 = sxs G (i + 2)) (hf : f_law_23 v1 v2 M = some res) (K : ∀ c s : Nat, c ≤ cells + 2 → s ≤ slots + 12 → Run G true room_1 (miL_law xt) (ZL G) c s 1906 [some (aR 199), some (aR 0), some (aR 84), some (aR 113), some (aI i), none, none, none, none] [] res) : Run G true room_1 (miL_law xt) (ZL G) cells slots 1253 [some (aR 199), some (aR 0), some (aR 84), some (aR 113), some (aI i), none, none, none, none] [] M := by
  unfold f_law_23 at hf
  refine R_aload_n dL_law_1253 rfl rfl ?_
  refine R_aload_n dL_law_1254 rfl rfl ?_
  refine R_iload dL_law_1255 rfl ?_
  refine R_iconst dL_law_1257 (v := 1) rfl ?_
  refine R_iadd dL_law_1258 (show i + 1 = w32 (i + 1) from (w32_of (by omega) (by omega)).symm) ?_
  refine R_sload dL_law_1259 (by omega) (by omega) e1 ?_
  refine R_aload_n dL_law_1260 rfl rfl ?_
  refine R_iload dL_law_1261 rfl ?_
  refine R_iconst dL_law_1263 (v := 2) rfl ?_
  refine R_iadd dL_law_1264 (show i + 2 = w32 (i + 2) from (w32_of (by omega) (by omega)).symm) ?_
  refine R_sload dL_law_1265 (by omega) (by omega) e2 ?_
  refine R_aload_n dL_law_1266 rfl rfl ?_
  obtain ⟨p1267, hp1267, hf⟩ := bdE hf
  refine R_callSW (As := [aR 0, aI v1, aI v2, aR 113]) (st := []) dL_law_1267 (ct_L_erase _ _ _ hp1267) wwL_erase wd1146 rfl ⟨nle, nle, lcel (by omega), lslo (by omega)⟩ nle rfl ?_
  refine R_istore dL_law_1270 (show 5 < 9 by decide) rfl rfl ?_
  refine R_aload_n dL_law_1272 rfl rfl ?_
  refine R_aload_n dL_law_1273 rfl rfl ?_
  refine R_iload dL_law_1274 rfl ?_
  refine R_iconst dL_law_1276 (v := 1) rfl ?_
  refine R_iadd dL_law_1277 (show i + 1 = w32 (i + 1) from (w32_of (by omega) (by omega)).symm) ?_
  refine R_sload dL_law_1278 (by omega) (by omega) e1 ?_
  refine R_aload_n dL_law_1279 rfl rfl ?_
  refine R_iload dL_law_1280 rfl ?_
  refine R_iconst dL_law_1282 (v := 2) rfl ?_
  refine R_iadd dL_law_1283 (show i + 2 = w32 (i + 2) from (w32_of (by omega) (by omega)).symm) ?_
  refine R_sload dL_law_1284 (by omega) (by omega) e2 ?_
  obtain ⟨p1285, hp1285, hf⟩ := bdE hf
  refine R_callV (As := [aI v1, aI v2]) (st := []) dL_law_1285 (ct_X10_erase _ _ _ hp1285) mwX10_erase mvX10_erase (Or.inl wd1799) cl10 o_84 rfl rfl ⟨nle, nle, lcel (by omega), lslo (by omega)⟩ nle rfl ?_
  refine R_istore dL_law_1288 (show 6 < 9 by decide) rfl rfl ?_
  refine R_aload_n dL_law_1290 rfl rfl ?_
  obtain ⟨p1291, hp1291, hf⟩ := bdE hf
  refine R_callV (As := []) (st := []) dL_law_1291 (ct_X10_thrown  _ hp1291) mwX10_thrown mvX10_thrown (Or.inl wd1476) cl10 o_84 rfl rfl ⟨nle, nle, lcel (by omega), lslo (by omega)⟩ nle rfl ?_
  refine R_iload dL_law_1294 rfl ?_
  obtain ⟨hq, hf⟩ := gdE hf
  refine R_icmp_eq dL_law_1296 rfl (fun _ => ?_) (fun h => absurd hq h)
  refine R_iload dL_law_1301 rfl ?_
  refine R_if_ne dL_law_1303 rfl (fun h1303 => ?_) (fun h1303 => ?_)
  · replace hf := inegE hf h1303
    refine R_goto dL_law_1318 rfl ?_
    cases hf
    exact R_subk (K (cells + 1) (slots + 6) (by omega) (by omega)) ⟨rfl, rfl, rfl, rfl, rfl, trivial⟩
  · replace hf := iposE hf h1303
    refine R_aload_n dL_law_1306 rfl rfl ?_
    refine R_iconst dL_law_1307 (v := 0) rfl ?_
    refine R_laload dL_law_1308 a_113 (by decide) (by decide) rfl (fun hin1308 => ?_)
    refine R_iload dL_law_1309 rfl ?_
    refine R_i2l dL_law_1311 (fun hin1311 => ?_)
    obtain ⟨hq, hf⟩ := gdE hf
    refine R_lcmp dL_law_1312 hin1308 hin1311 (fun c1312 hc1312 => ?_)
    refine R_if_eq dL_law_1313 rfl (fun _ => ?_) (fun h => absurd (hc1312.mpr hq) h)
    refine R_goto dL_law_1318 rfl ?_
    cases hf
    exact R_subk (K (cells + 1) (slots + 6) (by omega) (by omega)) ⟨rfl, rfl, rfl, rfl, rfl, trivial⟩
def f_law_24 (v1 v2 v3 : Int) (M : Mem) : Option Mem :=
  (f_L_wrap v1 v2 v3 M).bind fun p1341 =>
  (f_X10_wrap v1 v2 v3 p1341.2).bind fun p1365 =>
  (f_X10_thrown p1365.2).bind fun p1371 =>
  if p1371 = p1341.1 then
  if p1341.1 = 0 then
    if p1365.2 113 0 = p1365.1 then
    some p1365.2
    else none
  else
    some p1365.2
  else none
set_option maxRecDepth 20000 in
theorem rl_24 {G : Gl} {i : Int} {cells slots : Nat} {v1 v2 v3 : Int} {M res : Mem} (hi0 : 0 ≤ i) (hi1 : i + 6 ≤ (G.2.2.2.2.1 : Nat)) (hL : G.2.2.2.2.1 ≤ 3072) (hcc : cells ≤ 4000) (hss : slots ≤ 300000) (e1 : v1 = sxs G (i + 1)) (e2 : v2 = sxs G (i + 2)) (e3 : v3 = sxs G (i + 3)) (hf : f_law_24 v1 v2 v3 M = some res) (K : ∀ c s : Nat, c ≤ cells + 2 → s ≤ slots + 12 → Run G true room_1 (miL_law xt) (ZL G) c s 1906 [some (aR 199), some (aR 0), some (aR 84), some (aR 113), some (aI i), none, none, none, none] [] res) : Run G true room_1 (miL_law xt) (ZL G) cells slots 1321 [some (aR 199), some (aR 0), some (aR 84), some (aR 113), some (aI i), none, none, none, none] [] M := by
  unfold f_law_24 at hf
  refine R_aload_n dL_law_1321 rfl rfl ?_
  refine R_aload_n dL_law_1322 rfl rfl ?_
  refine R_iload dL_law_1323 rfl ?_
  refine R_iconst dL_law_1325 (v := 1) rfl ?_
  refine R_iadd dL_law_1326 (show i + 1 = w32 (i + 1) from (w32_of (by omega) (by omega)).symm) ?_
  refine R_sload dL_law_1327 (by omega) (by omega) e1 ?_
  refine R_aload_n dL_law_1328 rfl rfl ?_
  refine R_iload dL_law_1329 rfl ?_
  refine R_iconst dL_law_1331 (v := 2) rfl ?_
  refine R_iadd dL_law_1332 (show i + 2 = w32 (i + 2) from (w32_of (by omega) (by omega)).symm) ?_
  refine R_sload dL_law_1333 (by omega) (by omega) e2 ?_
  refine R_aload_n dL_law_1334 rfl rfl ?_
  refine R_iload dL_law_1335 rfl ?_
  refine R_iconst dL_law_1337 (v := 3) rfl ?_
  refine R_iadd dL_law_1338 (show i + 3 = w32 (i + 3) from (w32_of (by omega) (by omega)).symm) ?_
  refine R_sload dL_law_1339 (by omega) (by omega) e3 ?_
  refine R_aload_n dL_law_1340 rfl rfl ?_
  obtain ⟨p1341, hp1341, hf⟩ := bdE hf
  refine R_callSW (As := [aR 0, aI v1, aI v2, aI v3, aR 113]) (st := []) dL_law_1341 (ct_L_wrap _ _ _ _ hp1341) wwL_wrap wd1159 rfl ⟨nle, nle, lcel (by omega), lslo (by omega)⟩ nle rfl ?_
  refine R_istore dL_law_1344 (show 5 < 9 by decide) rfl rfl ?_
  refine R_aload_n dL_law_1346 rfl rfl ?_
  refine R_aload_n dL_law_1347 rfl rfl ?_
  refine R_iload dL_law_1348 rfl ?_
  refine R_iconst dL_law_1350 (v := 1) rfl ?_
  refine R_iadd dL_law_1351 (show i + 1 = w32 (i + 1) from (w32_of (by omega) (by omega)).symm) ?_
  refine R_sload dL_law_1352 (by omega) (by omega) e1 ?_
  refine R_aload_n dL_law_1353 rfl rfl ?_
  refine R_iload dL_law_1354 rfl ?_
  refine R_iconst dL_law_1356 (v := 2) rfl ?_
  refine R_iadd dL_law_1357 (show i + 2 = w32 (i + 2) from (w32_of (by omega) (by omega)).symm) ?_
  refine R_sload dL_law_1358 (by omega) (by omega) e2 ?_
  refine R_aload_n dL_law_1359 rfl rfl ?_
  refine R_iload dL_law_1360 rfl ?_
  refine R_iconst dL_law_1362 (v := 3) rfl ?_
  refine R_iadd dL_law_1363 (show i + 3 = w32 (i + 3) from (w32_of (by omega) (by omega)).symm) ?_
  refine R_sload dL_law_1364 (by omega) (by omega) e3 ?_
  obtain ⟨p1365, hp1365, hf⟩ := bdE hf
  refine R_callV (As := [aI v1, aI v2, aI v3]) (st := []) dL_law_1365 (ct_X10_wrap _ _ _ _ hp1365) mwX10_wrap mvX10_wrap (Or.inl wd1811) cl10 o_84 rfl rfl ⟨nle, nle, lcel (by omega), lslo (by omega)⟩ nle rfl ?_
  refine R_istore dL_law_1368 (show 6 < 9 by decide) rfl rfl ?_
  refine R_aload_n dL_law_1370 rfl rfl ?_
  obtain ⟨p1371, hp1371, hf⟩ := bdE hf
  refine R_callV (As := []) (st := []) dL_law_1371 (ct_X10_thrown  _ hp1371) mwX10_thrown mvX10_thrown (Or.inl wd1476) cl10 o_84 rfl rfl ⟨nle, nle, lcel (by omega), lslo (by omega)⟩ nle rfl ?_
  refine R_iload dL_law_1374 rfl ?_
  obtain ⟨hq, hf⟩ := gdE hf
  refine R_icmp_eq dL_law_1376 rfl (fun _ => ?_) (fun h => absurd hq h)
  refine R_iload dL_law_1381 rfl ?_
  refine R_if_ne dL_law_1383 rfl (fun h1383 => ?_) (fun h1383 => ?_)
  · replace hf := inegE hf h1383
    refine R_goto dL_law_1398 rfl ?_
    cases hf
    exact R_subk (K (cells + 2) (slots + 12) (by omega) (by omega)) ⟨rfl, rfl, rfl, rfl, rfl, trivial⟩
  · replace hf := iposE hf h1383
    refine R_aload_n dL_law_1386 rfl rfl ?_
    refine R_iconst dL_law_1387 (v := 0) rfl ?_
    refine R_laload dL_law_1388 a_113 (by decide) (by decide) rfl (fun hin1388 => ?_)
    refine R_iload dL_law_1389 rfl ?_
    refine R_i2l dL_law_1391 (fun hin1391 => ?_)
    obtain ⟨hq, hf⟩ := gdE hf
    refine R_lcmp dL_law_1392 hin1388 hin1391 (fun c1392 hc1392 => ?_)
    refine R_if_eq dL_law_1393 rfl (fun _ => ?_) (fun h => absurd (hc1392.mpr hq) h)
    refine R_goto dL_law_1398 rfl ?_
    cases hf
    exact R_subk (K (cells + 2) (slots + 12) (by omega) (by omega)) ⟨rfl, rfl, rfl, rfl, rfl, trivial⟩
def f_law_25 (v1 : Int) (M : Mem) : Option Mem :=
  (f_L_unwrap v1 M).bind fun p1409 =>
  (f_X10_unwrap v1 p1409.2).bind fun p1421 =>
  (f_X10_thrown p1421.2).bind fun p1427 =>
  if p1427 = p1409.1 then
  if p1409.1 = 0 then
    if p1421.2 113 0 = p1421.1 then
    some p1421.2
    else none
  else
    some p1421.2
  else none
set_option maxRecDepth 20000 in
theorem rl_25 {G : Gl} {i : Int} {cells slots : Nat} {v1 : Int} {M res : Mem} (hi0 : 0 ≤ i) (hi1 : i + 6 ≤ (G.2.2.2.2.1 : Nat)) (hL : G.2.2.2.2.1 ≤ 3072) (hcc : cells ≤ 4000) (hss : slots ≤ 300000) (e1 : v1 = sxs G (i + 1)) (hf : f_law_25 v1 M = some res) (K : ∀ c s : Nat, c ≤ cells + 2 → s ≤ slots + 12 → Run G true room_1 (miL_law xt) (ZL G) c s 1906 [some (aR 199), some (aR 0), some (aR 84), some (aR 113), some (aI i), none, none, none, none] [] res) : Run G true room_1 (miL_law xt) (ZL G) cells slots 1401 [some (aR 199), some (aR 0), some (aR 84), some (aR 113), some (aI i), none, none, none, none] [] M := by
  unfold f_law_25 at hf
  refine R_aload_n dL_law_1401 rfl rfl ?_
  refine R_aload_n dL_law_1402 rfl rfl ?_
  refine R_iload dL_law_1403 rfl ?_
  refine R_iconst dL_law_1405 (v := 1) rfl ?_
  refine R_iadd dL_law_1406 (show i + 1 = w32 (i + 1) from (w32_of (by omega) (by omega)).symm) ?_
  refine R_sload dL_law_1407 (by omega) (by omega) e1 ?_
  refine R_aload_n dL_law_1408 rfl rfl ?_
  obtain ⟨p1409, hp1409, hf⟩ := bdE hf
  refine R_callSW (As := [aR 0, aI v1, aR 113]) (st := []) dL_law_1409 (ct_L_unwrap _ _ hp1409) wwL_unwrap wd1170 rfl ⟨nle, nle, lcel (by omega), lslo (by omega)⟩ nle rfl ?_
  refine R_istore dL_law_1412 (show 5 < 9 by decide) rfl rfl ?_
  refine R_aload_n dL_law_1414 rfl rfl ?_
  refine R_aload_n dL_law_1415 rfl rfl ?_
  refine R_iload dL_law_1416 rfl ?_
  refine R_iconst dL_law_1418 (v := 1) rfl ?_
  refine R_iadd dL_law_1419 (show i + 1 = w32 (i + 1) from (w32_of (by omega) (by omega)).symm) ?_
  refine R_sload dL_law_1420 (by omega) (by omega) e1 ?_
  obtain ⟨p1421, hp1421, hf⟩ := bdE hf
  refine R_callV (As := [aI v1]) (st := []) dL_law_1421 (ct_X10_unwrap _ _ hp1421) mwX10_unwrap mvX10_unwrap (Or.inl wd1819) cl10 o_84 rfl rfl ⟨nle, nle, lcel (by omega), lslo (by omega)⟩ nle rfl ?_
  refine R_istore dL_law_1424 (show 6 < 9 by decide) rfl rfl ?_
  refine R_aload_n dL_law_1426 rfl rfl ?_
  obtain ⟨p1427, hp1427, hf⟩ := bdE hf
  refine R_callV (As := []) (st := []) dL_law_1427 (ct_X10_thrown  _ hp1427) mwX10_thrown mvX10_thrown (Or.inl wd1476) cl10 o_84 rfl rfl ⟨nle, nle, lcel (by omega), lslo (by omega)⟩ nle rfl ?_
  refine R_iload dL_law_1430 rfl ?_
  obtain ⟨hq, hf⟩ := gdE hf
  refine R_icmp_eq dL_law_1432 rfl (fun _ => ?_) (fun h => absurd hq h)
  refine R_iload dL_law_1437 rfl ?_
  refine R_if_ne dL_law_1439 rfl (fun h1439 => ?_) (fun h1439 => ?_)
  · replace hf := inegE hf h1439
    refine R_goto dL_law_1454 rfl ?_
    cases hf
    exact R_subk (K (cells + 2) (slots + 12) (by omega) (by omega)) ⟨rfl, rfl, rfl, rfl, rfl, trivial⟩
  · replace hf := iposE hf h1439
    refine R_aload_n dL_law_1442 rfl rfl ?_
    refine R_iconst dL_law_1443 (v := 0) rfl ?_
    refine R_laload dL_law_1444 a_113 (by decide) (by decide) rfl (fun hin1444 => ?_)
    refine R_iload dL_law_1445 rfl ?_
    refine R_i2l dL_law_1447 (fun hin1447 => ?_)
    obtain ⟨hq, hf⟩ := gdE hf
    refine R_lcmp dL_law_1448 hin1444 hin1447 (fun c1448 hc1448 => ?_)
    refine R_if_eq dL_law_1449 rfl (fun _ => ?_) (fun h => absurd (hc1448.mpr hq) h)
    refine R_goto dL_law_1454 rfl ?_
    cases hf
    exact R_subk (K (cells + 2) (slots + 12) (by omega) (by omega)) ⟨rfl, rfl, rfl, rfl, rfl, trivial⟩
def f_law_26 (M : Mem) : Option Mem :=
  (f_X9_repair M).bind fun p1458 =>
  (f_X10_repair p1458.2).bind fun p1462 =>
  if p1458.1 = p1462.1 then
  some p1462.2
  else none
set_option maxRecDepth 20000 in
theorem rl_26 {G : Gl} {i : Int} {cells slots : Nat} {M res : Mem} (hi0 : 0 ≤ i) (hi1 : i + 6 ≤ (G.2.2.2.2.1 : Nat)) (hL : G.2.2.2.2.1 ≤ 3072) (hcc : cells ≤ 4000) (hss : slots ≤ 300000)  (hf : f_law_26  M = some res) (K : ∀ c s : Nat, c ≤ cells + 2 → s ≤ slots + 12 → Run G true room_1 (miL_law xt) (ZL G) c s 1906 [some (aR 199), some (aR 0), some (aR 84), some (aR 113), some (aI i), none, none, none, none] [] res) : Run G true room_1 (miL_law xt) (ZL G) cells slots 1457 [some (aR 199), some (aR 0), some (aR 84), some (aR 113), some (aI i), none, none, none, none] [] M := by
  unfold f_law_26 at hf
  refine R_aload_n dL_law_1457 rfl rfl ?_
  obtain ⟨p1458, hp1458, hf⟩ := bdE hf
  refine R_callV (As := []) (st := []) dL_law_1458 (ct_X9_repair  _ hp1458) mwX9_repair mvX9_repair (Or.inl wd598) cl9 o_0 rfl rfl ⟨nle, nle, lcel (by omega), lslo (by omega)⟩ nle rfl ?_
  refine R_aload_n dL_law_1461 rfl rfl ?_
  obtain ⟨p1462, hp1462, hf⟩ := bdE hf
  refine R_callV (As := []) (st := [aI p1458.1]) dL_law_1462 (ct_X10_repair  _ hp1462) mwX10_repair mvX10_repair (Or.inl wd1823) cl10 o_84 rfl rfl ⟨nle, nle, lcel (by omega), lslo (by omega)⟩ nle rfl ?_
  obtain ⟨hq, hf⟩ := gdE hf
  refine R_icmp_eq dL_law_1465 rfl (fun _ => ?_) (fun h => absurd hq h)
  cases hf
  exact R_subk (K cells slots (by omega) (by omega)) ⟨rfl, rfl, rfl, rfl, rfl, trivial⟩
def f_law_27 (v1 : Int) (M : Mem) : Option Mem :=
  (f_L_mark v1 M).bind fun p1478 =>
  (f_X10_mark v1 p1478.2).bind fun p1490 =>
  (f_X10_thrown p1490.2).bind fun p1496 =>
  if p1496 = p1478.1 then
  if p1478.1 = 0 then
    if p1490.2 113 0 = p1490.1 then
    some p1490.2
    else none
  else
    some p1490.2
  else none
set_option maxRecDepth 20000 in
theorem rl_27 {G : Gl} {i : Int} {cells slots : Nat} {v1 : Int} {M res : Mem} (hi0 : 0 ≤ i) (hi1 : i + 6 ≤ (G.2.2.2.2.1 : Nat)) (hL : G.2.2.2.2.1 ≤ 3072) (hcc : cells ≤ 4000) (hss : slots ≤ 300000) (e1 : v1 = sxs G (i + 1)) (hf : f_law_27 v1 M = some res) (K : ∀ c s : Nat, c ≤ cells + 2 → s ≤ slots + 12 → Run G true room_1 (miL_law xt) (ZL G) c s 1906 [some (aR 199), some (aR 0), some (aR 84), some (aR 113), some (aI i), none, none, none, none] [] res) : Run G true room_1 (miL_law xt) (ZL G) cells slots 1470 [some (aR 199), some (aR 0), some (aR 84), some (aR 113), some (aI i), none, none, none, none] [] M := by
  unfold f_law_27 at hf
  refine R_aload_n dL_law_1470 rfl rfl ?_
  refine R_aload_n dL_law_1471 rfl rfl ?_
  refine R_iload dL_law_1472 rfl ?_
  refine R_iconst dL_law_1474 (v := 1) rfl ?_
  refine R_iadd dL_law_1475 (show i + 1 = w32 (i + 1) from (w32_of (by omega) (by omega)).symm) ?_
  refine R_sload dL_law_1476 (by omega) (by omega) e1 ?_
  refine R_aload_n dL_law_1477 rfl rfl ?_
  obtain ⟨p1478, hp1478, hf⟩ := bdE hf
  refine R_callSW (As := [aR 0, aI v1, aR 113]) (st := []) dL_law_1478 (ct_L_mark _ _ hp1478) wwL_mark wd1177 rfl ⟨nle, nle, lcel (by omega), lslo (by omega)⟩ nle rfl ?_
  refine R_istore dL_law_1481 (show 5 < 9 by decide) rfl rfl ?_
  refine R_aload_n dL_law_1483 rfl rfl ?_
  refine R_aload_n dL_law_1484 rfl rfl ?_
  refine R_iload dL_law_1485 rfl ?_
  refine R_iconst dL_law_1487 (v := 1) rfl ?_
  refine R_iadd dL_law_1488 (show i + 1 = w32 (i + 1) from (w32_of (by omega) (by omega)).symm) ?_
  refine R_sload dL_law_1489 (by omega) (by omega) e1 ?_
  obtain ⟨p1490, hp1490, hf⟩ := bdE hf
  refine R_callV (As := [aI v1]) (st := []) dL_law_1490 (ct_X10_mark _ _ hp1490) mwX10_mark mvX10_mark (Or.inl wd1835) cl10 o_84 rfl rfl ⟨nle, nle, lcel (by omega), lslo (by omega)⟩ nle rfl ?_
  refine R_istore dL_law_1493 (show 6 < 9 by decide) rfl rfl ?_
  refine R_aload_n dL_law_1495 rfl rfl ?_
  obtain ⟨p1496, hp1496, hf⟩ := bdE hf
  refine R_callV (As := []) (st := []) dL_law_1496 (ct_X10_thrown  _ hp1496) mwX10_thrown mvX10_thrown (Or.inl wd1476) cl10 o_84 rfl rfl ⟨nle, nle, lcel (by omega), lslo (by omega)⟩ nle rfl ?_
  refine R_iload dL_law_1499 rfl ?_
  obtain ⟨hq, hf⟩ := gdE hf
  refine R_icmp_eq dL_law_1501 rfl (fun _ => ?_) (fun h => absurd hq h)
  refine R_iload dL_law_1506 rfl ?_
  refine R_if_ne dL_law_1508 rfl (fun h1508 => ?_) (fun h1508 => ?_)
  · replace hf := inegE hf h1508
    refine R_goto dL_law_1523 rfl ?_
    cases hf
    exact R_subk (K (cells + 1) (slots + 6) (by omega) (by omega)) ⟨rfl, rfl, rfl, rfl, rfl, trivial⟩
  · replace hf := iposE hf h1508
    refine R_aload_n dL_law_1511 rfl rfl ?_
    refine R_iconst dL_law_1512 (v := 0) rfl ?_
    refine R_laload dL_law_1513 a_113 (by decide) (by decide) rfl (fun hin1513 => ?_)
    refine R_iload dL_law_1514 rfl ?_
    refine R_i2l dL_law_1516 (fun hin1516 => ?_)
    obtain ⟨hq, hf⟩ := gdE hf
    refine R_lcmp dL_law_1517 hin1513 hin1516 (fun c1517 hc1517 => ?_)
    refine R_if_eq dL_law_1518 rfl (fun _ => ?_) (fun h => absurd (hc1517.mpr hq) h)
    refine R_goto dL_law_1523 rfl ?_
    cases hf
    exact R_subk (K (cells + 1) (slots + 6) (by omega) (by omega)) ⟨rfl, rfl, rfl, rfl, rfl, trivial⟩
def f_law_28 (v1 : Int) (M : Mem) : Option Mem :=
  (f_L_unmark v1 M).bind fun p1534 =>
  (f_X10_unmark v1 p1534.2).bind fun p1546 =>
  (f_X10_thrown p1546.2).bind fun p1552 =>
  if p1552 = p1534.1 then
  if p1534.1 = 0 then
    if p1546.2 113 0 = p1546.1 then
    some p1546.2
    else none
  else
    some p1546.2
  else none
set_option maxRecDepth 20000 in
theorem rl_28 {G : Gl} {i : Int} {cells slots : Nat} {v1 : Int} {M res : Mem} (hi0 : 0 ≤ i) (hi1 : i + 6 ≤ (G.2.2.2.2.1 : Nat)) (hL : G.2.2.2.2.1 ≤ 3072) (hcc : cells ≤ 4000) (hss : slots ≤ 300000) (e1 : v1 = sxs G (i + 1)) (hf : f_law_28 v1 M = some res) (K : ∀ c s : Nat, c ≤ cells + 2 → s ≤ slots + 12 → Run G true room_1 (miL_law xt) (ZL G) c s 1906 [some (aR 199), some (aR 0), some (aR 84), some (aR 113), some (aI i), none, none, none, none] [] res) : Run G true room_1 (miL_law xt) (ZL G) cells slots 1526 [some (aR 199), some (aR 0), some (aR 84), some (aR 113), some (aI i), none, none, none, none] [] M := by
  unfold f_law_28 at hf
  refine R_aload_n dL_law_1526 rfl rfl ?_
  refine R_aload_n dL_law_1527 rfl rfl ?_
  refine R_iload dL_law_1528 rfl ?_
  refine R_iconst dL_law_1530 (v := 1) rfl ?_
  refine R_iadd dL_law_1531 (show i + 1 = w32 (i + 1) from (w32_of (by omega) (by omega)).symm) ?_
  refine R_sload dL_law_1532 (by omega) (by omega) e1 ?_
  refine R_aload_n dL_law_1533 rfl rfl ?_
  obtain ⟨p1534, hp1534, hf⟩ := bdE hf
  refine R_callSW (As := [aR 0, aI v1, aR 113]) (st := []) dL_law_1534 (ct_L_unmark _ _ hp1534) wwL_unmark wd1188 rfl ⟨nle, nle, lcel (by omega), lslo (by omega)⟩ nle rfl ?_
  refine R_istore dL_law_1537 (show 5 < 9 by decide) rfl rfl ?_
  refine R_aload_n dL_law_1539 rfl rfl ?_
  refine R_aload_n dL_law_1540 rfl rfl ?_
  refine R_iload dL_law_1541 rfl ?_
  refine R_iconst dL_law_1543 (v := 1) rfl ?_
  refine R_iadd dL_law_1544 (show i + 1 = w32 (i + 1) from (w32_of (by omega) (by omega)).symm) ?_
  refine R_sload dL_law_1545 (by omega) (by omega) e1 ?_
  obtain ⟨p1546, hp1546, hf⟩ := bdE hf
  refine R_callV (As := [aI v1]) (st := []) dL_law_1546 (ct_X10_unmark _ _ hp1546) mwX10_unmark mvX10_unmark (Or.inl wd1839) cl10 o_84 rfl rfl ⟨nle, nle, lcel (by omega), lslo (by omega)⟩ nle rfl ?_
  refine R_istore dL_law_1549 (show 6 < 9 by decide) rfl rfl ?_
  refine R_aload_n dL_law_1551 rfl rfl ?_
  obtain ⟨p1552, hp1552, hf⟩ := bdE hf
  refine R_callV (As := []) (st := []) dL_law_1552 (ct_X10_thrown  _ hp1552) mwX10_thrown mvX10_thrown (Or.inl wd1476) cl10 o_84 rfl rfl ⟨nle, nle, lcel (by omega), lslo (by omega)⟩ nle rfl ?_
  refine R_iload dL_law_1555 rfl ?_
  obtain ⟨hq, hf⟩ := gdE hf
  refine R_icmp_eq dL_law_1557 rfl (fun _ => ?_) (fun h => absurd hq h)
  refine R_iload dL_law_1562 rfl ?_
  refine R_if_ne dL_law_1564 rfl (fun h1564 => ?_) (fun h1564 => ?_)
  · replace hf := inegE hf h1564
    refine R_goto dL_law_1579 rfl ?_
    cases hf
    exact R_subk (K (cells + 1) (slots + 6) (by omega) (by omega)) ⟨rfl, rfl, rfl, rfl, rfl, trivial⟩
  · replace hf := iposE hf h1564
    refine R_aload_n dL_law_1567 rfl rfl ?_
    refine R_iconst dL_law_1568 (v := 0) rfl ?_
    refine R_laload dL_law_1569 a_113 (by decide) (by decide) rfl (fun hin1569 => ?_)
    refine R_iload dL_law_1570 rfl ?_
    refine R_i2l dL_law_1572 (fun hin1572 => ?_)
    obtain ⟨hq, hf⟩ := gdE hf
    refine R_lcmp dL_law_1573 hin1569 hin1572 (fun c1573 hc1573 => ?_)
    refine R_if_eq dL_law_1574 rfl (fun _ => ?_) (fun h => absurd (hc1573.mpr hq) h)
    refine R_goto dL_law_1579 rfl ?_
    cases hf
    exact R_subk (K (cells + 1) (slots + 6) (by omega) (by omega)) ⟨rfl, rfl, rfl, rfl, rfl, trivial⟩
def f_law_29 (v1 : Int) (M : Mem) : Option Mem :=
  (f_L_setColours v1 M).bind fun p1590 =>
  (f_X10_setColours v1 p1590.2).bind fun p1602 =>
  (f_X10_thrown p1602.2).bind fun p1608 =>
  if p1608 = p1590.1 then
  if p1590.1 = 0 then
    if p1602.2 113 0 = p1602.1 then
    some p1602.2
    else none
  else
    some p1602.2
  else none
set_option maxRecDepth 20000 in
theorem rl_29 {G : Gl} {i : Int} {cells slots : Nat} {v1 : Int} {M res : Mem} (hi0 : 0 ≤ i) (hi1 : i + 6 ≤ (G.2.2.2.2.1 : Nat)) (hL : G.2.2.2.2.1 ≤ 3072) (hcc : cells ≤ 4000) (hss : slots ≤ 300000) (e1 : v1 = sxs G (i + 1)) (hf : f_law_29 v1 M = some res) (K : ∀ c s : Nat, c ≤ cells + 2 → s ≤ slots + 12 → Run G true room_1 (miL_law xt) (ZL G) c s 1906 [some (aR 199), some (aR 0), some (aR 84), some (aR 113), some (aI i), none, none, none, none] [] res) : Run G true room_1 (miL_law xt) (ZL G) cells slots 1582 [some (aR 199), some (aR 0), some (aR 84), some (aR 113), some (aI i), none, none, none, none] [] M := by
  unfold f_law_29 at hf
  refine R_aload_n dL_law_1582 rfl rfl ?_
  refine R_aload_n dL_law_1583 rfl rfl ?_
  refine R_iload dL_law_1584 rfl ?_
  refine R_iconst dL_law_1586 (v := 1) rfl ?_
  refine R_iadd dL_law_1587 (show i + 1 = w32 (i + 1) from (w32_of (by omega) (by omega)).symm) ?_
  refine R_sload dL_law_1588 (by omega) (by omega) e1 ?_
  refine R_aload_n dL_law_1589 rfl rfl ?_
  obtain ⟨p1590, hp1590, hf⟩ := bdE hf
  refine R_callSW (As := [aR 0, aI v1, aR 113]) (st := []) dL_law_1590 (ct_L_setColours _ _ hp1590) wwL_setColours wd1199 rfl ⟨nle, nle, lcel (by omega), lslo (by omega)⟩ nle rfl ?_
  refine R_istore dL_law_1593 (show 5 < 9 by decide) rfl rfl ?_
  refine R_aload_n dL_law_1595 rfl rfl ?_
  refine R_aload_n dL_law_1596 rfl rfl ?_
  refine R_iload dL_law_1597 rfl ?_
  refine R_iconst dL_law_1599 (v := 1) rfl ?_
  refine R_iadd dL_law_1600 (show i + 1 = w32 (i + 1) from (w32_of (by omega) (by omega)).symm) ?_
  refine R_sload dL_law_1601 (by omega) (by omega) e1 ?_
  obtain ⟨p1602, hp1602, hf⟩ := bdE hf
  refine R_callV (As := [aI v1]) (st := []) dL_law_1602 (ct_X10_setColours _ _ hp1602) mwX10_setColours mvX10_setColours (Or.inl wd1843) cl10 o_84 rfl rfl ⟨nle, nle, lcel (by omega), lslo (by omega)⟩ nle rfl ?_
  refine R_istore dL_law_1605 (show 6 < 9 by decide) rfl rfl ?_
  refine R_aload_n dL_law_1607 rfl rfl ?_
  obtain ⟨p1608, hp1608, hf⟩ := bdE hf
  refine R_callV (As := []) (st := []) dL_law_1608 (ct_X10_thrown  _ hp1608) mwX10_thrown mvX10_thrown (Or.inl wd1476) cl10 o_84 rfl rfl ⟨nle, nle, lcel (by omega), lslo (by omega)⟩ nle rfl ?_
  refine R_iload dL_law_1611 rfl ?_
  obtain ⟨hq, hf⟩ := gdE hf
  refine R_icmp_eq dL_law_1613 rfl (fun _ => ?_) (fun h => absurd hq h)
  refine R_iload dL_law_1618 rfl ?_
  refine R_if_ne dL_law_1620 rfl (fun h1620 => ?_) (fun h1620 => ?_)
  · replace hf := inegE hf h1620
    refine R_goto dL_law_1635 rfl ?_
    cases hf
    exact R_subk (K (cells + 1) (slots + 6) (by omega) (by omega)) ⟨rfl, rfl, rfl, rfl, rfl, trivial⟩
  · replace hf := iposE hf h1620
    refine R_aload_n dL_law_1623 rfl rfl ?_
    refine R_iconst dL_law_1624 (v := 0) rfl ?_
    refine R_laload dL_law_1625 a_113 (by decide) (by decide) rfl (fun hin1625 => ?_)
    refine R_iload dL_law_1626 rfl ?_
    refine R_i2l dL_law_1628 (fun hin1628 => ?_)
    obtain ⟨hq, hf⟩ := gdE hf
    refine R_lcmp dL_law_1629 hin1625 hin1628 (fun c1629 hc1629 => ?_)
    refine R_if_eq dL_law_1630 rfl (fun _ => ?_) (fun h => absurd (hc1629.mpr hq) h)
    refine R_goto dL_law_1635 rfl ?_
    cases hf
    exact R_subk (K (cells + 1) (slots + 6) (by omega) (by omega)) ⟨rfl, rfl, rfl, rfl, rfl, trivial⟩
def f_law_30 (v1 v2 v3 : Int) (M : Mem) : Option Mem :=
  (f_L_setCosts v1 v2 v3 M).bind fun p1658 =>
  (f_X10_setCosts v1 v2 v3 p1658.2).bind fun p1682 =>
  (f_X10_thrown p1682.2).bind fun p1688 =>
  if p1688 = p1658.1 then
  if p1658.1 = 0 then
    if p1682.2 113 0 = p1682.1 then
    some p1682.2
    else none
  else
    some p1682.2
  else none
set_option maxRecDepth 20000 in
theorem rl_30 {G : Gl} {i : Int} {cells slots : Nat} {v1 v2 v3 : Int} {M res : Mem} (hi0 : 0 ≤ i) (hi1 : i + 6 ≤ (G.2.2.2.2.1 : Nat)) (hL : G.2.2.2.2.1 ≤ 3072) (hcc : cells ≤ 4000) (hss : slots ≤ 300000) (e1 : v1 = sxs G (i + 1)) (e2 : v2 = sxs G (i + 2)) (e3 : v3 = sxs G (i + 3)) (hf : f_law_30 v1 v2 v3 M = some res) (K : ∀ c s : Nat, c ≤ cells + 2 → s ≤ slots + 12 → Run G true room_1 (miL_law xt) (ZL G) c s 1906 [some (aR 199), some (aR 0), some (aR 84), some (aR 113), some (aI i), none, none, none, none] [] res) : Run G true room_1 (miL_law xt) (ZL G) cells slots 1638 [some (aR 199), some (aR 0), some (aR 84), some (aR 113), some (aI i), none, none, none, none] [] M := by
  unfold f_law_30 at hf
  refine R_aload_n dL_law_1638 rfl rfl ?_
  refine R_aload_n dL_law_1639 rfl rfl ?_
  refine R_iload dL_law_1640 rfl ?_
  refine R_iconst dL_law_1642 (v := 1) rfl ?_
  refine R_iadd dL_law_1643 (show i + 1 = w32 (i + 1) from (w32_of (by omega) (by omega)).symm) ?_
  refine R_sload dL_law_1644 (by omega) (by omega) e1 ?_
  refine R_aload_n dL_law_1645 rfl rfl ?_
  refine R_iload dL_law_1646 rfl ?_
  refine R_iconst dL_law_1648 (v := 2) rfl ?_
  refine R_iadd dL_law_1649 (show i + 2 = w32 (i + 2) from (w32_of (by omega) (by omega)).symm) ?_
  refine R_sload dL_law_1650 (by omega) (by omega) e2 ?_
  refine R_aload_n dL_law_1651 rfl rfl ?_
  refine R_iload dL_law_1652 rfl ?_
  refine R_iconst dL_law_1654 (v := 3) rfl ?_
  refine R_iadd dL_law_1655 (show i + 3 = w32 (i + 3) from (w32_of (by omega) (by omega)).symm) ?_
  refine R_sload dL_law_1656 (by omega) (by omega) e3 ?_
  refine R_aload_n dL_law_1657 rfl rfl ?_
  obtain ⟨p1658, hp1658, hf⟩ := bdE hf
  refine R_callSW (As := [aR 0, aI v1, aI v2, aI v3, aR 113]) (st := []) dL_law_1658 (ct_L_setCosts _ _ _ _ hp1658) wwL_setCosts wd1207 rfl ⟨nle, nle, lcel (by omega), lslo (by omega)⟩ nle rfl ?_
  refine R_istore dL_law_1661 (show 5 < 9 by decide) rfl rfl ?_
  refine R_aload_n dL_law_1663 rfl rfl ?_
  refine R_aload_n dL_law_1664 rfl rfl ?_
  refine R_iload dL_law_1665 rfl ?_
  refine R_iconst dL_law_1667 (v := 1) rfl ?_
  refine R_iadd dL_law_1668 (show i + 1 = w32 (i + 1) from (w32_of (by omega) (by omega)).symm) ?_
  refine R_sload dL_law_1669 (by omega) (by omega) e1 ?_
  refine R_aload_n dL_law_1670 rfl rfl ?_
  refine R_iload dL_law_1671 rfl ?_
  refine R_iconst dL_law_1673 (v := 2) rfl ?_
  refine R_iadd dL_law_1674 (show i + 2 = w32 (i + 2) from (w32_of (by omega) (by omega)).symm) ?_
  refine R_sload dL_law_1675 (by omega) (by omega) e2 ?_
  refine R_aload_n dL_law_1676 rfl rfl ?_
  refine R_iload dL_law_1677 rfl ?_
  refine R_iconst dL_law_1679 (v := 3) rfl ?_
  refine R_iadd dL_law_1680 (show i + 3 = w32 (i + 3) from (w32_of (by omega) (by omega)).symm) ?_
  refine R_sload dL_law_1681 (by omega) (by omega) e3 ?_
  obtain ⟨p1682, hp1682, hf⟩ := bdE hf
  refine R_callV (As := [aI v1, aI v2, aI v3]) (st := []) dL_law_1682 (ct_X10_setCosts _ _ _ _ hp1682) mwX10_setCosts mvX10_setCosts (Or.inl wd1847) cl10 o_84 rfl rfl ⟨nle, nle, lcel (by omega), lslo (by omega)⟩ nle rfl ?_
  refine R_istore dL_law_1685 (show 6 < 9 by decide) rfl rfl ?_
  refine R_aload_n dL_law_1687 rfl rfl ?_
  obtain ⟨p1688, hp1688, hf⟩ := bdE hf
  refine R_callV (As := []) (st := []) dL_law_1688 (ct_X10_thrown  _ hp1688) mwX10_thrown mvX10_thrown (Or.inl wd1476) cl10 o_84 rfl rfl ⟨nle, nle, lcel (by omega), lslo (by omega)⟩ nle rfl ?_
  refine R_iload dL_law_1691 rfl ?_
  obtain ⟨hq, hf⟩ := gdE hf
  refine R_icmp_eq dL_law_1693 rfl (fun _ => ?_) (fun h => absurd hq h)
  refine R_iload dL_law_1698 rfl ?_
  refine R_if_ne dL_law_1700 rfl (fun h1700 => ?_) (fun h1700 => ?_)
  · replace hf := inegE hf h1700
    refine R_goto dL_law_1715 rfl ?_
    cases hf
    exact R_subk (K (cells + 1) (slots + 6) (by omega) (by omega)) ⟨rfl, rfl, rfl, rfl, rfl, trivial⟩
  · replace hf := iposE hf h1700
    refine R_aload_n dL_law_1703 rfl rfl ?_
    refine R_iconst dL_law_1704 (v := 0) rfl ?_
    refine R_laload dL_law_1705 a_113 (by decide) (by decide) rfl (fun hin1705 => ?_)
    refine R_iload dL_law_1706 rfl ?_
    refine R_i2l dL_law_1708 (fun hin1708 => ?_)
    obtain ⟨hq, hf⟩ := gdE hf
    refine R_lcmp dL_law_1709 hin1705 hin1708 (fun c1709 hc1709 => ?_)
    refine R_if_eq dL_law_1710 rfl (fun _ => ?_) (fun h => absurd (hc1709.mpr hq) h)
    refine R_goto dL_law_1715 rfl ?_
    cases hf
    exact R_subk (K (cells + 1) (slots + 6) (by omega) (by omega)) ⟨rfl, rfl, rfl, rfl, rfl, trivial⟩
def f_law_31 (v1 : Int) (M : Mem) : Option Mem :=
  (f_L_script v1 M).bind fun p1726 =>
  (f_X10_script v1 p1726.2).bind fun p1738 =>
  (f_X10_thrown p1738.2).bind fun p1744 =>
  if p1744 = p1726.1 then
  if p1726.1 = 0 then
    if p1738.2 113 0 = p1738.1 then
    some p1738.2
    else none
  else
    some p1738.2
  else none
set_option maxRecDepth 20000 in
theorem rl_31 {G : Gl} {i : Int} {cells slots : Nat} {v1 : Int} {M res : Mem} (hi0 : 0 ≤ i) (hi1 : i + 6 ≤ (G.2.2.2.2.1 : Nat)) (hL : G.2.2.2.2.1 ≤ 3072) (hcc : cells ≤ 4000) (hss : slots ≤ 300000) (e1 : v1 = sxs G (i + 1)) (hf : f_law_31 v1 M = some res) (K : ∀ c s : Nat, c ≤ cells + 2 → s ≤ slots + 12 → Run G true room_1 (miL_law xt) (ZL G) c s 1906 [some (aR 199), some (aR 0), some (aR 84), some (aR 113), some (aI i), none, none, none, none] [] res) : Run G true room_1 (miL_law xt) (ZL G) cells slots 1718 [some (aR 199), some (aR 0), some (aR 84), some (aR 113), some (aI i), none, none, none, none] [] M := by
  unfold f_law_31 at hf
  refine R_aload_n dL_law_1718 rfl rfl ?_
  refine R_aload_n dL_law_1719 rfl rfl ?_
  refine R_iload dL_law_1720 rfl ?_
  refine R_iconst dL_law_1722 (v := 1) rfl ?_
  refine R_iadd dL_law_1723 (show i + 1 = w32 (i + 1) from (w32_of (by omega) (by omega)).symm) ?_
  refine R_sload dL_law_1724 (by omega) (by omega) e1 ?_
  refine R_aload_n dL_law_1725 rfl rfl ?_
  obtain ⟨p1726, hp1726, hf⟩ := bdE hf
  refine R_callSW (As := [aR 0, aI v1, aR 113]) (st := []) dL_law_1726 (ct_L_script _ _ hp1726) wwL_script wd1218 rfl ⟨nle, nle, lcel (by omega), lslo (by omega)⟩ nle rfl ?_
  refine R_istore dL_law_1729 (show 5 < 9 by decide) rfl rfl ?_
  refine R_aload_n dL_law_1731 rfl rfl ?_
  refine R_aload_n dL_law_1732 rfl rfl ?_
  refine R_iload dL_law_1733 rfl ?_
  refine R_iconst dL_law_1735 (v := 1) rfl ?_
  refine R_iadd dL_law_1736 (show i + 1 = w32 (i + 1) from (w32_of (by omega) (by omega)).symm) ?_
  refine R_sload dL_law_1737 (by omega) (by omega) e1 ?_
  obtain ⟨p1738, hp1738, hf⟩ := bdE hf
  refine R_callV (As := [aI v1]) (st := []) dL_law_1738 (ct_X10_script _ _ hp1738) mwX10_script mvX10_script (Or.inl wd1851) cl10 o_84 rfl rfl ⟨nle, nle, lcel (by omega), lslo (by omega)⟩ nle rfl ?_
  refine R_istore dL_law_1741 (show 6 < 9 by decide) rfl rfl ?_
  refine R_aload_n dL_law_1743 rfl rfl ?_
  obtain ⟨p1744, hp1744, hf⟩ := bdE hf
  refine R_callV (As := []) (st := []) dL_law_1744 (ct_X10_thrown  _ hp1744) mwX10_thrown mvX10_thrown (Or.inl wd1476) cl10 o_84 rfl rfl ⟨nle, nle, lcel (by omega), lslo (by omega)⟩ nle rfl ?_
  refine R_iload dL_law_1747 rfl ?_
  obtain ⟨hq, hf⟩ := gdE hf
  refine R_icmp_eq dL_law_1749 rfl (fun _ => ?_) (fun h => absurd hq h)
  refine R_iload dL_law_1754 rfl ?_
  refine R_if_ne dL_law_1756 rfl (fun h1756 => ?_) (fun h1756 => ?_)
  · replace hf := inegE hf h1756
    refine R_goto dL_law_1771 rfl ?_
    cases hf
    exact R_subk (K (cells + 1) (slots + 6) (by omega) (by omega)) ⟨rfl, rfl, rfl, rfl, rfl, trivial⟩
  · replace hf := iposE hf h1756
    refine R_aload_n dL_law_1759 rfl rfl ?_
    refine R_iconst dL_law_1760 (v := 0) rfl ?_
    refine R_laload dL_law_1761 a_113 (by decide) (by decide) rfl (fun hin1761 => ?_)
    refine R_iload dL_law_1762 rfl ?_
    refine R_i2l dL_law_1764 (fun hin1764 => ?_)
    obtain ⟨hq, hf⟩ := gdE hf
    refine R_lcmp dL_law_1765 hin1761 hin1764 (fun c1765 hc1765 => ?_)
    refine R_if_eq dL_law_1766 rfl (fun _ => ?_) (fun h => absurd (hc1765.mpr hq) h)
    refine R_goto dL_law_1771 rfl ?_
    cases hf
    exact R_subk (K (cells + 1) (slots + 6) (by omega) (by omega)) ⟨rfl, rfl, rfl, rfl, rfl, trivial⟩
def f_law_32 (M : Mem) : Option Mem :=
  (f_X9_undo M).bind fun p1775 =>
  (f_X10_undo p1775.2).bind fun p1779 =>
  if p1775.1 = p1779.1 then
  some p1779.2
  else none
set_option maxRecDepth 20000 in
theorem rl_32 {G : Gl} {i : Int} {cells slots : Nat} {M res : Mem} (hi0 : 0 ≤ i) (hi1 : i + 6 ≤ (G.2.2.2.2.1 : Nat)) (hL : G.2.2.2.2.1 ≤ 3072) (hcc : cells ≤ 4000) (hss : slots ≤ 300000)  (hf : f_law_32  M = some res) (K : ∀ c s : Nat, c ≤ cells + 2 → s ≤ slots + 12 → Run G true room_1 (miL_law xt) (ZL G) c s 1906 [some (aR 199), some (aR 0), some (aR 84), some (aR 113), some (aI i), none, none, none, none] [] res) : Run G true room_1 (miL_law xt) (ZL G) cells slots 1774 [some (aR 199), some (aR 0), some (aR 84), some (aR 113), some (aI i), none, none, none, none] [] M := by
  unfold f_law_32 at hf
  refine R_aload_n dL_law_1774 rfl rfl ?_
  obtain ⟨p1775, hp1775, hf⟩ := bdE hf
  refine R_callV (As := []) (st := []) dL_law_1775 (ct_X9_undo  _ hp1775) mwX9_undo mvX9_undo (Or.inl wd694) cl9 o_0 rfl rfl ⟨nle, nle, lcel (by omega), lslo (by omega)⟩ nle rfl ?_
  refine R_aload_n dL_law_1778 rfl rfl ?_
  obtain ⟨p1779, hp1779, hf⟩ := bdE hf
  refine R_callV (As := []) (st := [aI p1775.1]) dL_law_1779 (ct_X10_undo  _ hp1779) mwX10_undo mvX10_undo (Or.inl wd1881) cl10 o_84 rfl rfl ⟨nle, nle, lcel (by omega), lslo (by omega)⟩ nle rfl ?_
  obtain ⟨hq, hf⟩ := gdE hf
  refine R_icmp_eq dL_law_1782 rfl (fun _ => ?_) (fun h => absurd hq h)
  cases hf
  exact R_subk (K cells slots (by omega) (by omega)) ⟨rfl, rfl, rfl, rfl, rfl, trivial⟩
def f_law_33 (v1 : Int) (M : Mem) : Option Mem :=
  (f_L_saveSnapshot v1 M).bind fun p1795 =>
  (f_X10_saveSnapshot v1 p1795.2).bind fun p1807 =>
  (f_X10_thrown p1807.2).bind fun p1813 =>
  if p1813 = p1795.1 then
  if p1795.1 = 0 then
    if p1807.1 = 0 then
      if p1807.2 113 0 = 0 then
      some p1807.2
      else none
    else
      if p1807.2 113 0 = 1 then
      some p1807.2
      else none
  else
    some p1807.2
  else none
set_option maxRecDepth 20000 in
theorem rl_33 {G : Gl} {i : Int} {cells slots : Nat} {v1 : Int} {M res : Mem} (hi0 : 0 ≤ i) (hi1 : i + 6 ≤ (G.2.2.2.2.1 : Nat)) (hL : G.2.2.2.2.1 ≤ 3072) (hcc : cells ≤ 4000) (hss : slots ≤ 300000) (e1 : v1 = sxs G (i + 1)) (hf : f_law_33 v1 M = some res) (K : ∀ c s : Nat, c ≤ cells + 2 → s ≤ slots + 12 → Run G true room_1 (miL_law xt) (ZL G) c s 1906 [some (aR 199), some (aR 0), some (aR 84), some (aR 113), some (aI i), none, none, none, none] [] res) : Run G true room_1 (miL_law xt) (ZL G) cells slots 1787 [some (aR 199), some (aR 0), some (aR 84), some (aR 113), some (aI i), none, none, none, none] [] M := by
  unfold f_law_33 at hf
  refine R_aload_n dL_law_1787 rfl rfl ?_
  refine R_aload_n dL_law_1788 rfl rfl ?_
  refine R_iload dL_law_1789 rfl ?_
  refine R_iconst dL_law_1791 (v := 1) rfl ?_
  refine R_iadd dL_law_1792 (show i + 1 = w32 (i + 1) from (w32_of (by omega) (by omega)).symm) ?_
  refine R_sload dL_law_1793 (by omega) (by omega) e1 ?_
  refine R_aload_n dL_law_1794 rfl rfl ?_
  obtain ⟨p1795, hp1795, hf⟩ := bdE hf
  refine R_callSW (As := [aR 0, aI v1, aR 113]) (st := []) dL_law_1795 (ct_L_saveSnapshot _ _ hp1795) wwL_saveSnapshot wd1279 rfl ⟨nle, nle, lcel (by omega), lslo (by omega)⟩ nle rfl ?_
  refine R_istore dL_law_1798 (show 5 < 9 by decide) rfl rfl ?_
  refine R_aload_n dL_law_1800 rfl rfl ?_
  refine R_aload_n dL_law_1801 rfl rfl ?_
  refine R_iload dL_law_1802 rfl ?_
  refine R_iconst dL_law_1804 (v := 1) rfl ?_
  refine R_iadd dL_law_1805 (show i + 1 = w32 (i + 1) from (w32_of (by omega) (by omega)).symm) ?_
  refine R_sload dL_law_1806 (by omega) (by omega) e1 ?_
  obtain ⟨p1807, hp1807, hf⟩ := bdE hf
  refine R_callV (As := [aI v1]) (st := []) dL_law_1807 (ct_X10_saveSnapshot _ _ hp1807) mwX10_saveSnapshot mvX10_saveSnapshot (Or.inl wd1885) cl10 o_84 rfl rfl ⟨nle, nle, lcel (by omega), lslo (by omega)⟩ nle rfl ?_
  refine R_istore dL_law_1810 (show 6 < 9 by decide) rfl rfl ?_
  refine R_aload_n dL_law_1812 rfl rfl ?_
  obtain ⟨p1813, hp1813, hf⟩ := bdE hf
  refine R_callV (As := []) (st := []) dL_law_1813 (ct_X10_thrown  _ hp1813) mwX10_thrown mvX10_thrown (Or.inl wd1476) cl10 o_84 rfl rfl ⟨nle, nle, lcel (by omega), lslo (by omega)⟩ nle rfl ?_
  refine R_iload dL_law_1816 rfl ?_
  obtain ⟨hq, hf⟩ := gdE hf
  refine R_icmp_eq dL_law_1818 rfl (fun _ => ?_) (fun h => absurd hq h)
  refine R_iload dL_law_1823 rfl ?_
  refine R_if_ne dL_law_1825 rfl (fun h1825 => ?_) (fun h1825 => ?_)
  · replace hf := inegE hf h1825
    refine R_goto dL_law_1847 rfl ?_
    cases hf
    exact R_subk (K (cells + 1) (slots + 6) (by omega) (by omega)) ⟨rfl, rfl, rfl, rfl, rfl, trivial⟩
  · replace hf := iposE hf h1825
    refine R_aload_n dL_law_1828 rfl rfl ?_
    refine R_iconst dL_law_1829 (v := 0) rfl ?_
    refine R_laload dL_law_1830 a_113 (by decide) (by decide) rfl (fun hin1830 => ?_)
    refine R_iload dL_law_1831 rfl ?_
    refine R_if_eq dL_law_1833 rfl (fun h1833 => ?_) (fun h1833 => ?_)
    · replace hf := iposE hf h1833
      refine R_lconst dL_law_1840 (a := 0) rfl ?_
      obtain ⟨hq, hf⟩ := gdE hf
      refine R_lcmp dL_law_1841 hin1830 (by unfold inR; omega) (fun c1841 hc1841 => ?_)
      refine R_if_eq dL_law_1842 rfl (fun _ => ?_) (fun h => absurd (hc1841.mpr hq) h)
      refine R_goto dL_law_1847 rfl ?_
      cases hf
      exact R_subk (K (cells + 1) (slots + 6) (by omega) (by omega)) ⟨rfl, rfl, rfl, rfl, rfl, trivial⟩
    · replace hf := inegE hf h1833
      refine R_lconst dL_law_1836 (a := 1) rfl ?_
      refine R_goto dL_law_1837 rfl ?_
      obtain ⟨hq, hf⟩ := gdE hf
      refine R_lcmp dL_law_1841 hin1830 (by unfold inR; omega) (fun c1841 hc1841 => ?_)
      refine R_if_eq dL_law_1842 rfl (fun _ => ?_) (fun h => absurd (hc1841.mpr hq) h)
      refine R_goto dL_law_1847 rfl ?_
      cases hf
      exact R_subk (K (cells + 1) (slots + 6) (by omega) (by omega)) ⟨rfl, rfl, rfl, rfl, rfl, trivial⟩
def f_law_34 (v1 : Int) (M : Mem) : Option Mem :=
  (f_L_restoreSnapshot v1 M).bind fun p1858 =>
  (f_X10_restoreSnapshot v1 p1858.2).bind fun p1870 =>
  (f_X10_thrown p1870.2).bind fun p1876 =>
  if p1876 = p1858.1 then
  if p1858.1 = 0 then
    if p1870.2 113 0 = p1870.1 then
    some p1870.2
    else none
  else
    some p1870.2
  else none
set_option maxRecDepth 20000 in
theorem rl_34 {G : Gl} {i : Int} {cells slots : Nat} {v1 : Int} {M res : Mem} (hi0 : 0 ≤ i) (hi1 : i + 6 ≤ (G.2.2.2.2.1 : Nat)) (hL : G.2.2.2.2.1 ≤ 3072) (hcc : cells ≤ 4000) (hss : slots ≤ 300000) (e1 : v1 = sxs G (i + 1)) (hf : f_law_34 v1 M = some res) (K : ∀ c s : Nat, c ≤ cells + 2 → s ≤ slots + 12 → Run G true room_1 (miL_law xt) (ZL G) c s 1906 [some (aR 199), some (aR 0), some (aR 84), some (aR 113), some (aI i), none, none, none, none] [] res) : Run G true room_1 (miL_law xt) (ZL G) cells slots 1850 [some (aR 199), some (aR 0), some (aR 84), some (aR 113), some (aI i), none, none, none, none] [] M := by
  unfold f_law_34 at hf
  refine R_aload_n dL_law_1850 rfl rfl ?_
  refine R_aload_n dL_law_1851 rfl rfl ?_
  refine R_iload dL_law_1852 rfl ?_
  refine R_iconst dL_law_1854 (v := 1) rfl ?_
  refine R_iadd dL_law_1855 (show i + 1 = w32 (i + 1) from (w32_of (by omega) (by omega)).symm) ?_
  refine R_sload dL_law_1856 (by omega) (by omega) e1 ?_
  refine R_aload_n dL_law_1857 rfl rfl ?_
  obtain ⟨p1858, hp1858, hf⟩ := bdE hf
  refine R_callSW (As := [aR 0, aI v1, aR 113]) (st := []) dL_law_1858 (ct_L_restoreSnapshot _ _ hp1858) wwL_restoreSnapshot wd1291 rfl ⟨nle, nle, lcel (by omega), lslo (by omega)⟩ nle rfl ?_
  refine R_istore dL_law_1861 (show 5 < 9 by decide) rfl rfl ?_
  refine R_aload_n dL_law_1863 rfl rfl ?_
  refine R_aload_n dL_law_1864 rfl rfl ?_
  refine R_iload dL_law_1865 rfl ?_
  refine R_iconst dL_law_1867 (v := 1) rfl ?_
  refine R_iadd dL_law_1868 (show i + 1 = w32 (i + 1) from (w32_of (by omega) (by omega)).symm) ?_
  refine R_sload dL_law_1869 (by omega) (by omega) e1 ?_
  obtain ⟨p1870, hp1870, hf⟩ := bdE hf
  refine R_callV (As := [aI v1]) (st := []) dL_law_1870 (ct_X10_restoreSnapshot _ _ hp1870) mwX10_restoreSnapshot mvX10_restoreSnapshot (Or.inl wd1893) cl10 o_84 rfl rfl ⟨nle, nle, lcel (by omega), lslo (by omega)⟩ nle rfl ?_
  refine R_istore dL_law_1873 (show 6 < 9 by decide) rfl rfl ?_
  refine R_aload_n dL_law_1875 rfl rfl ?_
  obtain ⟨p1876, hp1876, hf⟩ := bdE hf
  refine R_callV (As := []) (st := []) dL_law_1876 (ct_X10_thrown  _ hp1876) mwX10_thrown mvX10_thrown (Or.inl wd1476) cl10 o_84 rfl rfl ⟨nle, nle, lcel (by omega), lslo (by omega)⟩ nle rfl ?_
  refine R_iload dL_law_1879 rfl ?_
  obtain ⟨hq, hf⟩ := gdE hf
  refine R_icmp_eq dL_law_1881 rfl (fun _ => ?_) (fun h => absurd hq h)
  refine R_iload dL_law_1886 rfl ?_
  refine R_if_ne dL_law_1888 rfl (fun h1888 => ?_) (fun h1888 => ?_)
  · replace hf := inegE hf h1888
    refine R_goto dL_law_1903 rfl ?_
    cases hf
    exact R_subk (K (cells + 2) (slots + 12) (by omega) (by omega)) ⟨rfl, rfl, rfl, rfl, rfl, trivial⟩
  · replace hf := iposE hf h1888
    refine R_aload_n dL_law_1891 rfl rfl ?_
    refine R_iconst dL_law_1892 (v := 0) rfl ?_
    refine R_laload dL_law_1893 a_113 (by decide) (by decide) rfl (fun hin1893 => ?_)
    refine R_iload dL_law_1894 rfl ?_
    refine R_i2l dL_law_1896 (fun hin1896 => ?_)
    obtain ⟨hq, hf⟩ := gdE hf
    refine R_lcmp dL_law_1897 hin1893 hin1896 (fun c1897 hc1897 => ?_)
    refine R_if_eq dL_law_1898 rfl (fun _ => ?_) (fun h => absurd (hc1897.mpr hq) h)
    refine R_goto dL_law_1903 rfl ?_
    cases hf
    exact R_subk (K (cells + 2) (slots + 12) (by omega) (by omega)) ⟨rfl, rfl, rfl, rfl, rfl, trivial⟩
