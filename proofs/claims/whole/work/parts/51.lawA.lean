/-! THE LAW'S LOOP -/
def lwV (g : cG) (b i : Nat) : List (Nat × Value) := [(0, .ref b), (1, .ref (gA g 65)), (2, .ref (gA g 87)), (3, .int (nI i))]
def lwH (C : XC) (g : cG) (b L : Nat) (xs : Nat → Int32) : Prop := XOk C cL_law RL tG room_1 ∧ XG C g ∧ va_X b L xs C.2.2.2.2.1 C.2.2.2.2.1.heap ∧ b < C.2.2.2.2.1.heap.size ∧ ¬ C.2.2.2.2.2.2.2.2.2.2.2.2.2 b ∧ L ≤ 2561 ∧ C.2.2.2.2.2.2.2.2.2.2.2.2.1 = 4
section LW
variable {C : XC} {g : cG} {b L : Nat} {xs : Nat → Int32} {Q : State → Prop} {σ : St} {lv : List (Nat × Value)} {rest : List Value} {pc q i a : Nat}
theorem x_sld (H : lwH C g b L xs) {j : Nat} (hj : j < L) (hdg : decode cL_law pc = .ok (.iaload, 1)) (hq : pc + 1 = q) (k : Xs C (wW g) Q σ q lv (.int (xs j) :: rest)) : Xs C (wW g) Q σ pc lv (.int (nI j) :: .ref b :: rest) := by
  obtain ⟨h, hg, hX, hbl, hbA, hL, h4⟩ := H
  subst hq
  refine fun H locs ls hW hS hl => va_sld h.1 h.2.1 hX hbl hbA hS (vp_in_nI hj (by omega)) hdg ?_
  rw [nI_clamp (by omega)]
  exact k H locs ls hW hS hl
theorem x_slen (H : lwH C g b L xs) (hdg : decode cL_law pc = .ok (.arraylength, 1)) (hq : pc + 1 = q) (k : Xs C (wW g) Q σ q lv (.int (nI L) :: rest)) : Xs C (wW g) Q σ pc lv (.ref b :: rest) := by
  obtain ⟨h, hg, hX, hbl, hbA, hL, h4⟩ := H
  subst hq
  exact fun H locs ls hW hS hl => va_slen h.1 h.2.1 hX hbl hbA hS hdg (k H locs ls hW hS hl)
theorem x_arg (H : lwH C g b L xs) {n : Nat} (hi : i + n < L) {p1 p2 p3 p4 : Nat} (d0 : decode cL_law pc = .ok (.aload_n 0, 1)) (d1 : decode cL_law p1 = .ok (.iload_n 3, 1)) (d2 : decode cL_law p2 = .ok (.iconst (n : Int), 1)) (d3 : decode cL_law p3 = .ok (.iadd, 1)) (d4 : decode cL_law p4 = .ok (.iaload, 1)) (hv : Int32.ofInt (n : Int) = nI n) (h1 : pc + 1 = p1) (h2 : p1 + 1 = p2) (h3 : p2 + 1 = p3) (h4 : p3 + 1 = p4) (h5 : p4 + 1 = q) (k : Xs C (wW g) Q σ q (lwV g b i) (.int (xs (i + n)) :: rest)) : Xs C (wW g) Q σ pc (lwV g b i) rest := by
  have h := H.1
  refine x_aload_n h d0 rfl 0 rfl h1 ?_
  refine x_iload_n h d1 rfl 3 rfl h2 ?_
  refine x_iconst h d2 hv h3 ?_
  refine x_iadd h d3 h4 ?_
  rw [nI_add]
  exact x_sld H hi d4 h5 k

theorem x_bool {x : Int32} {p1 p2 p3 : Nat} (h : XOk C cL_law RL tG room_1) (d0 : decode cL_law pc = .ok (.ifCond .eq 7, 3)) (d1 : decode cL_law p1 = .ok (.iconst 1, 1)) (d2 : decode cL_law p2 = .ok (.goto 4, 3)) (d3 : decode cL_law p3 = .ok (.iconst 0, 1)) (e1 : pc + 3 = p1) (e2 : p1 + 1 = p2) (e3 : p2 + 3 = p3) (e4 : (pc : Int) + 7 = (p3 : Int)) (e5 : (p2 : Int) + 4 = (q : Int)) (hq : p3 + 1 = q) (k : Xs C (wW g) Q σ q lv (.int (if x = 0 then 0 else 1) :: rest)) : Xs C (wW g) Q σ pc lv (.int x :: rest) := by
  refine x_if_eq (a := ()) (b := ()) (o := ()) h d0 (tgt := p3) e4 e1 (ite_self _) (fun hx _ => ?_) (fun hx _ => ?_)
  · refine x_iconst h d3 (v := 0) (by decide) hq ?_
    rw [if_pos hx] at k
    exact k
  · refine x_iconst h d1 (v := 1) (by decide) e2 ?_
    refine x_goto h d2 e5 ?_
    rw [if_neg hx] at k
    exact k
theorem lg_cmp_self (x : Int64) : lg_cmp x x = 0 := by
  unfold lg_cmp
  rw [if_neg (Int64.lt_irrefl), if_pos rfl]
set_option maxHeartbeats 4000000 in
set_option maxRecDepth 100000 in
theorem lw_c0 (HL : lwH C g b L xs) (H2 : INV a σ) (hi : i + 5 ≤ L) (k : ∀ τ, INV a τ → Xs C (wW g) Q τ 1208 (lwV g b i) []) : Xs C (wW g) Q σ 196 (lwV g b i) [] := by
  have e2 := s_agents H2
  have H3 := H2
  have h := HL.1
  have hg := HL.2.1
  refine x_aload_n h dL_law_196 rfl 1 rfl (q := 197) rfl ?_
  refine x_callVi (As := []) (rest := []) h hg (c_X9_agents C.2.1 hg.2.1 σ _ rfl) ml_L_21 biX9_agents rfl rfl hdX9_agents ⟨Nat.le_of_ble_eq_true rfl, Nat.le_of_ble_eq_true rfl⟩ (by decide) (cE_65 g _) rfl rfl rfl (Nat.le_of_ble_eq_true rfl) dL_law_197 ?_
  refine x_aload_n h dL_law_200 rfl 2 rfl (q := 201) rfl ?_
  refine x_callVi (As := []) (rest := [.int (m_X9_agents σ)]) h hg (c_X10_agents C.2.1 hg.2.1 σ _ rfl) ml_L_25 biX10_agents rfl rfl hdX10_agents ⟨Nat.le_of_ble_eq_true rfl, Nat.le_of_ble_eq_true rfl⟩ (by decide) (cE_87 g _) rfl rfl rfl (Nat.le_of_ble_eq_true rfl) dL_law_201 ?_
  refine x_icmp_eq (a := ()) (b := ()) (o := ()) h dL_law_204 (tgt := 1208) (by decide) (q := 207) rfl (ite_self _) (fun _ _ => k _ H3) (fun hc _ => absurd (show (m_X9_agents σ) = (m_X10_agents σ) from e2) hc)
set_option maxHeartbeats 4000000 in
set_option maxRecDepth 100000 in
theorem lw_c1 (HL : lwH C g b L xs) (H2 : INV a σ) (hi : i + 5 ≤ L) (k : ∀ τ, INV a τ → Xs C (wW g) Q τ 1208 (lwV g b i) []) : Xs C (wW g) Q σ 209 (lwV g b i) [] := by
  obtain ⟨r, σ1, σ2, e1, e2, H3⟩ := s_addState H2
  have h := HL.1
  have hg := HL.2.1
  refine x_aload_n h dL_law_209 rfl 1 rfl (q := 210) rfl ?_
  refine x_callVi (As := []) (rest := []) h hg (c_X9_addState C.2.1 hg.2.1 σ (r, σ1) e1) ml_L_26 biX9_addState rfl rfl hdX9_addState ⟨Nat.le_of_ble_eq_true rfl, Nat.le_of_ble_eq_true rfl⟩ (by decide) (cE_65 g _) rfl rfl rfl (Nat.le_of_ble_eq_true rfl) dL_law_210 ?_
  refine x_aload_n h dL_law_213 rfl 2 rfl (q := 214) rfl ?_
  refine x_callVi (As := []) (rest := [.int r]) h hg (c_X10_addState C.2.1 hg.2.1 σ1 (r, σ2) e2) ml_L_29 biX10_addState rfl rfl hdX10_addState ⟨Nat.le_of_ble_eq_true rfl, Nat.le_of_ble_eq_true rfl⟩ (by decide) (cE_87 g _) rfl rfl rfl (Nat.le_of_ble_eq_true rfl) dL_law_214 ?_
  refine x_icmp_eq (a := ()) (b := ()) (o := ()) h dL_law_217 (tgt := 1208) (by decide) (q := 220) rfl (ite_self _) (fun _ _ => k _ H3) (fun hc _ => absurd (show r = r from rfl) hc)
set_option maxHeartbeats 4000000 in
set_option maxRecDepth 100000 in
theorem lw_c2 (HL : lwH C g b L xs) (H2 : INV a σ) (hi : i + 5 ≤ L) (k : ∀ τ, INV a τ → Xs C (wW g) Q τ 1208 (lwV g b i) []) : Xs C (wW g) Q σ 222 (lwV g b i) [] := by
  have e2 := s_states H2
  have H3 := H2
  have h := HL.1
  have hg := HL.2.1
  refine x_aload_n h dL_law_222 rfl 1 rfl (q := 223) rfl ?_
  refine x_callVi (As := []) (rest := []) h hg (c_X9_states C.2.1 hg.2.1 σ _ rfl) ml_L_30 biX9_states rfl rfl hdX9_states ⟨Nat.le_of_ble_eq_true rfl, Nat.le_of_ble_eq_true rfl⟩ (by decide) (cE_65 g _) rfl rfl rfl (Nat.le_of_ble_eq_true rfl) dL_law_223 ?_
  refine x_aload_n h dL_law_226 rfl 2 rfl (q := 227) rfl ?_
  refine x_callVi (As := []) (rest := [.int (m_X9_states σ)]) h hg (c_X10_states C.2.1 hg.2.1 σ (m_X9_states σ) e2) ml_L_33 biX10_states rfl rfl hdX10_states ⟨Nat.le_of_ble_eq_true rfl, Nat.le_of_ble_eq_true rfl⟩ (by decide) (cE_87 g _) rfl rfl rfl (Nat.le_of_ble_eq_true rfl) dL_law_227 ?_
  refine x_icmp_eq (a := ()) (b := ()) (o := ()) h dL_law_230 (tgt := 1208) (by decide) (q := 233) rfl (ite_self _) (fun _ _ => k _ H3) (fun hc _ => absurd (show (m_X9_states σ) = (m_X9_states σ) from rfl) hc)
set_option maxHeartbeats 4000000 in
set_option maxRecDepth 100000 in
theorem lw_c3 (HL : lwH C g b L xs) (H2 : INV a σ) (hi : i + 5 ≤ L) (k : ∀ τ, INV a τ → Xs C (wW g) Q τ 1208 (lwV g b i) []) : Xs C (wW g) Q σ 235 (lwV g b i) [] := by
  obtain ⟨r, σ1, σ2, e1, e2, H3⟩ := s_setActions H2 (xs (i + 1)) (xs (i + 2)) (xs (i + 3))
  have h := HL.1
  have hg := HL.2.1
  refine x_aload_n h dL_law_235 rfl 1 rfl (q := 236) rfl ?_
  refine x_arg HL (n := 1) (by omega) dL_law_236 dL_law_237 dL_law_238 dL_law_239 dL_law_240 (by decide) rfl rfl rfl rfl (q := 241) rfl ?_
  refine x_arg HL (n := 2) (by omega) dL_law_241 dL_law_242 dL_law_243 dL_law_244 dL_law_245 (by decide) rfl rfl rfl rfl (q := 246) rfl ?_
  refine x_arg HL (n := 3) (by omega) dL_law_246 dL_law_247 dL_law_248 dL_law_249 dL_law_250 (by decide) rfl rfl rfl rfl (q := 251) rfl ?_
  refine x_callVi (As := [.int (xs (i + 1)), .int (xs (i + 2)), .int (xs (i + 3))]) (rest := []) h hg (c_X9_setActions C.2.1 hg.2.1 σ (xs (i + 1)) (xs (i + 2)) (xs (i + 3)) (r, σ1) e1) ml_L_34 biX9_setActions rfl rfl hdX9_setActions ⟨Nat.le_of_ble_eq_true rfl, Nat.le_of_ble_eq_true rfl⟩ (by decide) (cE_65 g _) rfl rfl rfl (Nat.le_of_ble_eq_true rfl) dL_law_251 ?_
  refine x_aload_n h dL_law_254 rfl 2 rfl (q := 255) rfl ?_
  refine x_arg HL (n := 1) (by omega) dL_law_255 dL_law_256 dL_law_257 dL_law_258 dL_law_259 (by decide) rfl rfl rfl rfl (q := 260) rfl ?_
  refine x_arg HL (n := 2) (by omega) dL_law_260 dL_law_261 dL_law_262 dL_law_263 dL_law_264 (by decide) rfl rfl rfl rfl (q := 265) rfl ?_
  refine x_arg HL (n := 3) (by omega) dL_law_265 dL_law_266 dL_law_267 dL_law_268 dL_law_269 (by decide) rfl rfl rfl rfl (q := 270) rfl ?_
  refine x_callVi (As := [.int (xs (i + 1)), .int (xs (i + 2)), .int (xs (i + 3))]) (rest := [.int r]) h hg (c_X10_setActions C.2.1 hg.2.1 σ1 (xs (i + 1)) (xs (i + 2)) (xs (i + 3)) (r, σ2) e2) ml_L_38 biX10_setActions rfl rfl hdX10_setActions ⟨Nat.le_of_ble_eq_true rfl, Nat.le_of_ble_eq_true rfl⟩ (by decide) (cE_87 g _) rfl rfl rfl (Nat.le_of_ble_eq_true rfl) dL_law_270 ?_
  refine x_icmp_eq (a := ()) (b := ()) (o := ()) h dL_law_273 (tgt := 1208) (by decide) (q := 276) rfl (ite_self _) (fun _ _ => k _ H3) (fun hc _ => absurd (show r = r from rfl) hc)
set_option maxHeartbeats 4000000 in
set_option maxRecDepth 100000 in
theorem lw_c4 (HL : lwH C g b L xs) (H2 : INV a σ) (hi : i + 5 ≤ L) (k : ∀ τ, INV a τ → Xs C (wW g) Q τ 1208 (lwV g b i) []) : Xs C (wW g) Q σ 278 (lwV g b i) [] := by
  have e2 := s_actions H2 (xs (i + 1)) (xs (i + 2))
  have H3 := H2
  have h := HL.1
  have hg := HL.2.1
  refine x_aload_n h dL_law_278 rfl 1 rfl (q := 279) rfl ?_
  refine x_arg HL (n := 1) (by omega) dL_law_279 dL_law_280 dL_law_281 dL_law_282 dL_law_283 (by decide) rfl rfl rfl rfl (q := 284) rfl ?_
  refine x_arg HL (n := 2) (by omega) dL_law_284 dL_law_285 dL_law_286 dL_law_287 dL_law_288 (by decide) rfl rfl rfl rfl (q := 289) rfl ?_
  refine x_callVi (As := [.int (xs (i + 1)), .int (xs (i + 2))]) (rest := []) h hg (c_X9_actions C.2.1 hg.2.1 σ (xs (i + 1)) (xs (i + 2)) _ rfl) ml_L_39 biX9_actions rfl rfl hdX9_actions ⟨Nat.le_of_ble_eq_true rfl, Nat.le_of_ble_eq_true rfl⟩ (by decide) (cE_65 g _) rfl rfl rfl (Nat.le_of_ble_eq_true rfl) dL_law_289 ?_
  refine x_aload_n h dL_law_292 rfl 2 rfl (q := 293) rfl ?_
  refine x_arg HL (n := 1) (by omega) dL_law_293 dL_law_294 dL_law_295 dL_law_296 dL_law_297 (by decide) rfl rfl rfl rfl (q := 298) rfl ?_
  refine x_arg HL (n := 2) (by omega) dL_law_298 dL_law_299 dL_law_300 dL_law_301 dL_law_302 (by decide) rfl rfl rfl rfl (q := 303) rfl ?_
  refine x_callVi (As := [.int (xs (i + 1)), .int (xs (i + 2))]) (rest := [.int (m_X9_actions σ (xs (i + 1)) (xs (i + 2)))]) h hg (c_X10_actions C.2.1 hg.2.1 σ (xs (i + 1)) (xs (i + 2)) (m_X9_actions σ (xs (i + 1)) (xs (i + 2))) e2) ml_L_43 biX10_actions rfl rfl hdX10_actions ⟨Nat.le_of_ble_eq_true rfl, Nat.le_of_ble_eq_true rfl⟩ (by decide) (cE_87 g _) rfl rfl rfl (Nat.le_of_ble_eq_true rfl) dL_law_303 ?_
  refine x_icmp_eq (a := ()) (b := ()) (o := ()) h dL_law_306 (tgt := 1208) (by decide) (q := 309) rfl (ite_self _) (fun _ _ => k _ H3) (fun hc _ => absurd (show (m_X9_actions σ (xs (i + 1)) (xs (i + 2))) = (m_X9_actions σ (xs (i + 1)) (xs (i + 2))) from rfl) hc)
set_option maxHeartbeats 4000000 in
set_option maxRecDepth 100000 in
theorem lw_c5 (HL : lwH C g b L xs) (H2 : INV a σ) (hi : i + 5 ≤ L) (k : ∀ τ, INV a τ → Xs C (wW g) Q τ 1208 (lwV g b i) []) : Xs C (wW g) Q σ 311 (lwV g b i) [] := by
  obtain ⟨z3, hz⟩ : ∃ z : Int32, z = (if xs (i + 3) = 0 then 0 else 1) := ⟨_, rfl⟩
  obtain ⟨r, σ1, σ2, e1, e2, H3⟩ := s_label H2 (xs (i + 1)) (xs (i + 2)) z3
  have h := HL.1
  have hg := HL.2.1
  refine x_aload_n h dL_law_311 rfl 1 rfl (q := 312) rfl ?_
  refine x_arg HL (n := 1) (by omega) dL_law_312 dL_law_313 dL_law_314 dL_law_315 dL_law_316 (by decide) rfl rfl rfl rfl (q := 317) rfl ?_
  refine x_arg HL (n := 2) (by omega) dL_law_317 dL_law_318 dL_law_319 dL_law_320 dL_law_321 (by decide) rfl rfl rfl rfl (q := 322) rfl ?_
  refine x_arg HL (n := 3) (by omega) dL_law_322 dL_law_323 dL_law_324 dL_law_325 dL_law_326 (by decide) rfl rfl rfl rfl (q := 327) rfl ?_
  refine x_bool h (x := xs (i + 3)) dL_law_327 dL_law_330 dL_law_331 dL_law_334 rfl rfl rfl rfl rfl (q := 335) rfl ?_
  rw [← hz]
  refine x_callVi (As := [.int (xs (i + 1)), .int (xs (i + 2)), .int z3]) (rest := []) h hg (c_X9_label C.2.1 hg.2.1 σ (xs (i + 1)) (xs (i + 2)) z3 (r, σ1) e1) ml_L_44 biX9_label rfl rfl hdX9_label ⟨Nat.le_of_ble_eq_true rfl, Nat.le_of_ble_eq_true rfl⟩ (by decide) (cE_65 g _) rfl rfl rfl (Nat.le_of_ble_eq_true rfl) dL_law_335 ?_
  refine x_aload_n h dL_law_338 rfl 2 rfl (q := 339) rfl ?_
  refine x_arg HL (n := 1) (by omega) dL_law_339 dL_law_340 dL_law_341 dL_law_342 dL_law_343 (by decide) rfl rfl rfl rfl (q := 344) rfl ?_
  refine x_arg HL (n := 2) (by omega) dL_law_344 dL_law_345 dL_law_346 dL_law_347 dL_law_348 (by decide) rfl rfl rfl rfl (q := 349) rfl ?_
  refine x_arg HL (n := 3) (by omega) dL_law_349 dL_law_350 dL_law_351 dL_law_352 dL_law_353 (by decide) rfl rfl rfl rfl (q := 354) rfl ?_
  refine x_bool h (x := xs (i + 3)) dL_law_354 dL_law_357 dL_law_358 dL_law_361 rfl rfl rfl rfl rfl (q := 362) rfl ?_
  rw [← hz]
  refine x_callVi (As := [.int (xs (i + 1)), .int (xs (i + 2)), .int z3]) (rest := [.int r]) h hg (c_X10_label C.2.1 hg.2.1 σ1 (xs (i + 1)) (xs (i + 2)) z3 (r, σ2) e2) ml_L_48 biX10_label rfl rfl hdX10_label ⟨Nat.le_of_ble_eq_true rfl, Nat.le_of_ble_eq_true rfl⟩ (by decide) (cE_87 g _) rfl rfl rfl (Nat.le_of_ble_eq_true rfl) dL_law_362 ?_
  refine x_icmp_eq (a := ()) (b := ()) (o := ()) h dL_law_365 (tgt := 1208) (by decide) (q := 368) rfl (ite_self _) (fun _ _ => k _ H3) (fun hc _ => absurd (show r = r from rfl) hc)
set_option maxHeartbeats 4000000 in
set_option maxRecDepth 100000 in
theorem lw_c6 (HL : lwH C g b L xs) (H2 : INV a σ) (hi : i + 5 ≤ L) (k : ∀ τ, INV a τ → Xs C (wW g) Q τ 1208 (lwV g b i) []) : Xs C (wW g) Q σ 370 (lwV g b i) [] := by
  have e2 := s_labels H2 (xs (i + 1))
  have H3 := H2
  have h := HL.1
  have hg := HL.2.1
  refine x_aload_n h dL_law_370 rfl 1 rfl (q := 371) rfl ?_
  refine x_arg HL (n := 1) (by omega) dL_law_371 dL_law_372 dL_law_373 dL_law_374 dL_law_375 (by decide) rfl rfl rfl rfl (q := 376) rfl ?_
  refine x_callVi (As := [.int (xs (i + 1))]) (rest := []) h hg (c_X9_labels C.2.1 hg.2.1 σ (xs (i + 1)) _ rfl) ml_L_49 biX9_labels rfl rfl hdX9_labels ⟨Nat.le_of_ble_eq_true rfl, Nat.le_of_ble_eq_true rfl⟩ (by decide) (cE_65 g _) rfl rfl rfl (Nat.le_of_ble_eq_true rfl) dL_law_376 ?_
  refine x_aload_n h dL_law_379 rfl 2 rfl (q := 380) rfl ?_
  refine x_arg HL (n := 1) (by omega) dL_law_380 dL_law_381 dL_law_382 dL_law_383 dL_law_384 (by decide) rfl rfl rfl rfl (q := 385) rfl ?_
  refine x_callVi (As := [.int (xs (i + 1))]) (rest := [.int (m_X9_labels σ (xs (i + 1)))]) h hg (c_X10_labels C.2.1 hg.2.1 σ (xs (i + 1)) (m_X9_labels σ (xs (i + 1))) e2) ml_L_53 biX10_labels rfl rfl hdX10_labels ⟨Nat.le_of_ble_eq_true rfl, Nat.le_of_ble_eq_true rfl⟩ (by decide) (cE_87 g _) rfl rfl rfl (Nat.le_of_ble_eq_true rfl) dL_law_385 ?_
  refine x_icmp_eq (a := ()) (b := ()) (o := ()) h dL_law_388 (tgt := 1208) (by decide) (q := 391) rfl (ite_self _) (fun _ _ => k _ H3) (fun hc _ => absurd (show (m_X9_labels σ (xs (i + 1))) = (m_X9_labels σ (xs (i + 1))) from rfl) hc)
set_option maxHeartbeats 4000000 in
set_option maxRecDepth 100000 in
theorem lw_c7 (HL : lwH C g b L xs) (H2 : INV a σ) (hi : i + 5 ≤ L) (k : ∀ τ, INV a τ → Xs C (wW g) Q τ 1208 (lwV g b i) []) : Xs C (wW g) Q σ 393 (lwV g b i) [] := by
  obtain ⟨r, σ1, σ2, e1, e2, H3⟩ := s_setMove H2 (xs (i + 1)) (xs (i + 2)) (xs (i + 3))
  have h := HL.1
  have hg := HL.2.1
  refine x_aload_n h dL_law_393 rfl 1 rfl (q := 394) rfl ?_
  refine x_arg HL (n := 1) (by omega) dL_law_394 dL_law_395 dL_law_396 dL_law_397 dL_law_398 (by decide) rfl rfl rfl rfl (q := 399) rfl ?_
  refine x_arg HL (n := 2) (by omega) dL_law_399 dL_law_400 dL_law_401 dL_law_402 dL_law_403 (by decide) rfl rfl rfl rfl (q := 404) rfl ?_
  refine x_arg HL (n := 3) (by omega) dL_law_404 dL_law_405 dL_law_406 dL_law_407 dL_law_408 (by decide) rfl rfl rfl rfl (q := 409) rfl ?_
  refine x_callVi (As := [.int (xs (i + 1)), .int (xs (i + 2)), .int (xs (i + 3))]) (rest := []) h hg (c_X9_setMove C.2.1 hg.2.1 σ (xs (i + 1)) (xs (i + 2)) (xs (i + 3)) (r, σ1) e1) ml_L_54 biX9_setMove rfl rfl hdX9_setMove ⟨Nat.le_of_ble_eq_true rfl, Nat.le_of_ble_eq_true rfl⟩ (by decide) (cE_65 g _) rfl rfl rfl (Nat.le_of_ble_eq_true rfl) dL_law_409 ?_
  refine x_aload_n h dL_law_412 rfl 2 rfl (q := 413) rfl ?_
  refine x_arg HL (n := 1) (by omega) dL_law_413 dL_law_414 dL_law_415 dL_law_416 dL_law_417 (by decide) rfl rfl rfl rfl (q := 418) rfl ?_
  refine x_arg HL (n := 2) (by omega) dL_law_418 dL_law_419 dL_law_420 dL_law_421 dL_law_422 (by decide) rfl rfl rfl rfl (q := 423) rfl ?_
  refine x_arg HL (n := 3) (by omega) dL_law_423 dL_law_424 dL_law_425 dL_law_426 dL_law_427 (by decide) rfl rfl rfl rfl (q := 428) rfl ?_
  refine x_callVi (As := [.int (xs (i + 1)), .int (xs (i + 2)), .int (xs (i + 3))]) (rest := [.int r]) h hg (c_X10_setMove C.2.1 hg.2.1 σ1 (xs (i + 1)) (xs (i + 2)) (xs (i + 3)) (r, σ2) e2) ml_L_57 biX10_setMove rfl rfl hdX10_setMove ⟨Nat.le_of_ble_eq_true rfl, Nat.le_of_ble_eq_true rfl⟩ (by decide) (cE_87 g _) rfl rfl rfl (Nat.le_of_ble_eq_true rfl) dL_law_428 ?_
  refine x_icmp_eq (a := ()) (b := ()) (o := ()) h dL_law_431 (tgt := 1208) (by decide) (q := 434) rfl (ite_self _) (fun _ _ => k _ H3) (fun hc _ => absurd (show r = r from rfl) hc)
set_option maxHeartbeats 4000000 in
set_option maxRecDepth 100000 in
theorem lw_c8 (HL : lwH C g b L xs) (H2 : INV a σ) (hi : i + 5 ≤ L) (k : ∀ τ, INV a τ → Xs C (wW g) Q τ 1208 (lwV g b i) []) : Xs C (wW g) Q σ 436 (lwV g b i) [] := by
  obtain ⟨r, σ1, σ2, e1, e2, H3⟩ := s_setAll H2 (xs (i + 1)) (xs (i + 2)) (xs (i + 3)) (xs (i + 4))
  have h := HL.1
  have hg := HL.2.1
  refine x_aload_n h dL_law_436 rfl 1 rfl (q := 437) rfl ?_
  refine x_arg HL (n := 1) (by omega) dL_law_437 dL_law_438 dL_law_439 dL_law_440 dL_law_441 (by decide) rfl rfl rfl rfl (q := 442) rfl ?_
  refine x_arg HL (n := 2) (by omega) dL_law_442 dL_law_443 dL_law_444 dL_law_445 dL_law_446 (by decide) rfl rfl rfl rfl (q := 447) rfl ?_
  refine x_arg HL (n := 3) (by omega) dL_law_447 dL_law_448 dL_law_449 dL_law_450 dL_law_451 (by decide) rfl rfl rfl rfl (q := 452) rfl ?_
  refine x_arg HL (n := 4) (by omega) dL_law_452 dL_law_453 dL_law_454 dL_law_455 dL_law_456 (by decide) rfl rfl rfl rfl (q := 457) rfl ?_
  refine x_callVi (As := [.int (xs (i + 1)), .int (xs (i + 2)), .int (xs (i + 3)), .int (xs (i + 4))]) (rest := []) h hg (c_X9_setAll C.2.1 hg.2.1 σ (xs (i + 1)) (xs (i + 2)) (xs (i + 3)) (xs (i + 4)) (r, σ1) e1) ml_L_58 biX9_setAll rfl rfl hdX9_setAll ⟨Nat.le_of_ble_eq_true rfl, Nat.le_of_ble_eq_true rfl⟩ (by decide) (cE_65 g _) rfl rfl rfl (Nat.le_of_ble_eq_true rfl) dL_law_457 ?_
  refine x_aload_n h dL_law_460 rfl 2 rfl (q := 461) rfl ?_
  refine x_arg HL (n := 1) (by omega) dL_law_461 dL_law_462 dL_law_463 dL_law_464 dL_law_465 (by decide) rfl rfl rfl rfl (q := 466) rfl ?_
  refine x_arg HL (n := 2) (by omega) dL_law_466 dL_law_467 dL_law_468 dL_law_469 dL_law_470 (by decide) rfl rfl rfl rfl (q := 471) rfl ?_
  refine x_arg HL (n := 3) (by omega) dL_law_471 dL_law_472 dL_law_473 dL_law_474 dL_law_475 (by decide) rfl rfl rfl rfl (q := 476) rfl ?_
  refine x_arg HL (n := 4) (by omega) dL_law_476 dL_law_477 dL_law_478 dL_law_479 dL_law_480 (by decide) rfl rfl rfl rfl (q := 481) rfl ?_
  refine x_callVi (As := [.int (xs (i + 1)), .int (xs (i + 2)), .int (xs (i + 3)), .int (xs (i + 4))]) (rest := [.int r]) h hg (c_X10_setAll C.2.1 hg.2.1 σ1 (xs (i + 1)) (xs (i + 2)) (xs (i + 3)) (xs (i + 4)) (r, σ2) e2) ml_L_62 biX10_setAll rfl rfl hdX10_setAll ⟨Nat.le_of_ble_eq_true rfl, Nat.le_of_ble_eq_true rfl⟩ (by decide) (cE_87 g _) rfl rfl rfl (Nat.le_of_ble_eq_true rfl) dL_law_481 ?_
  refine x_icmp_eq (a := ()) (b := ()) (o := ()) h dL_law_484 (tgt := 1208) (by decide) (q := 487) rfl (ite_self _) (fun _ _ => k _ H3) (fun hc _ => absurd (show r = r from rfl) hc)
set_option maxHeartbeats 4000000 in
set_option maxRecDepth 100000 in
theorem lw_c9 (HL : lwH C g b L xs) (H2 : INV a σ) (hi : i + 5 ≤ L) (k : ∀ τ, INV a τ → Xs C (wW g) Q τ 1208 (lwV g b i) []) : Xs C (wW g) Q σ 489 (lwV g b i) [] := by
  have e2 := s_next H2 (xs (i + 1)) (xs (i + 2))
  have H3 := H2
  have h := HL.1
  have hg := HL.2.1
  refine x_aload_n h dL_law_489 rfl 1 rfl (q := 490) rfl ?_
  refine x_arg HL (n := 1) (by omega) dL_law_490 dL_law_491 dL_law_492 dL_law_493 dL_law_494 (by decide) rfl rfl rfl rfl (q := 495) rfl ?_
  refine x_arg HL (n := 2) (by omega) dL_law_495 dL_law_496 dL_law_497 dL_law_498 dL_law_499 (by decide) rfl rfl rfl rfl (q := 500) rfl ?_
  refine x_callVi (As := [.int (xs (i + 1)), .int (xs (i + 2))]) (rest := []) h hg (c_X9_next C.2.1 hg.2.1 σ (xs (i + 1)) (xs (i + 2)) _ rfl) ml_L_63 biX9_next rfl rfl hdX9_next ⟨Nat.le_of_ble_eq_true rfl, Nat.le_of_ble_eq_true rfl⟩ (by decide) (cE_65 g _) rfl rfl rfl (Nat.le_of_ble_eq_true rfl) dL_law_500 ?_
  refine x_aload_n h dL_law_503 rfl 2 rfl (q := 504) rfl ?_
  refine x_arg HL (n := 1) (by omega) dL_law_504 dL_law_505 dL_law_506 dL_law_507 dL_law_508 (by decide) rfl rfl rfl rfl (q := 509) rfl ?_
  refine x_arg HL (n := 2) (by omega) dL_law_509 dL_law_510 dL_law_511 dL_law_512 dL_law_513 (by decide) rfl rfl rfl rfl (q := 514) rfl ?_
  refine x_callVi (As := [.int (xs (i + 1)), .int (xs (i + 2))]) (rest := [.int (m_X9_next σ (xs (i + 1)) (xs (i + 2)))]) h hg (c_X10_next C.2.1 hg.2.1 σ (xs (i + 1)) (xs (i + 2)) (m_X9_next σ (xs (i + 1)) (xs (i + 2))) e2) ml_L_66 biX10_next rfl rfl hdX10_next ⟨Nat.le_of_ble_eq_true rfl, Nat.le_of_ble_eq_true rfl⟩ (by decide) (cE_87 g _) rfl rfl rfl (Nat.le_of_ble_eq_true rfl) dL_law_514 ?_
  refine x_icmp_eq (a := ()) (b := ()) (o := ()) h dL_law_517 (tgt := 1208) (by decide) (q := 520) rfl (ite_self _) (fun _ _ => k _ H3) (fun hc _ => absurd (show (m_X9_next σ (xs (i + 1)) (xs (i + 2))) = (m_X9_next σ (xs (i + 1)) (xs (i + 2))) from rfl) hc)
set_option maxHeartbeats 4000000 in
set_option maxRecDepth 100000 in
theorem lw_c10 (HL : lwH C g b L xs) (H2 : INV a σ) (hi : i + 5 ≤ L) (k : ∀ τ, INV a τ → Xs C (wW g) Q τ 1208 (lwV g b i) []) : Xs C (wW g) Q σ 522 (lwV g b i) [] := by
  obtain ⟨r, e1, e2⟩ := s_moves H2 (xs (i + 1))
  have H3 := H2
  have h := HL.1
  have hg := HL.2.1
  refine x_aload_n h dL_law_522 rfl 1 rfl (q := 523) rfl ?_
  refine x_arg HL (n := 1) (by omega) dL_law_523 dL_law_524 dL_law_525 dL_law_526 dL_law_527 (by decide) rfl rfl rfl rfl (q := 528) rfl ?_
  refine x_callVi (As := [.int (xs (i + 1))]) (rest := []) h hg (c_X9_moves C.2.1 hg.2.1 σ (xs (i + 1)) r e1) ml_L_67 biX9_moves rfl rfl hdX9_moves ⟨Nat.le_of_ble_eq_true rfl, Nat.le_of_ble_eq_true rfl⟩ (by decide) (cE_65 g _) rfl rfl rfl (Nat.le_of_ble_eq_true rfl) dL_law_528 ?_
  refine x_aload_n h dL_law_531 rfl 2 rfl (q := 532) rfl ?_
  refine x_arg HL (n := 1) (by omega) dL_law_532 dL_law_533 dL_law_534 dL_law_535 dL_law_536 (by decide) rfl rfl rfl rfl (q := 537) rfl ?_
  refine x_callVi (As := [.int (xs (i + 1))]) (rest := [.int r]) h hg (c_X10_moves C.2.1 hg.2.1 σ (xs (i + 1)) r e2) ml_L_70 biX10_moves rfl rfl hdX10_moves ⟨Nat.le_of_ble_eq_true rfl, Nat.le_of_ble_eq_true rfl⟩ (by decide) (cE_87 g _) rfl rfl rfl (Nat.le_of_ble_eq_true rfl) dL_law_537 ?_
  refine x_icmp_eq (a := ()) (b := ()) (o := ()) h dL_law_540 (tgt := 1208) (by decide) (q := 543) rfl (ite_self _) (fun _ _ => k _ H3) (fun hc _ => absurd (show r = r from rfl) hc)
set_option maxHeartbeats 4000000 in
set_option maxRecDepth 100000 in
theorem lw_c11 (HL : lwH C g b L xs) (H2 : INV a σ) (hi : i + 5 ≤ L) (k : ∀ τ, INV a τ → Xs C (wW g) Q τ 1208 (lwV g b i) []) : Xs C (wW g) Q σ 545 (lwV g b i) [] := by
  obtain ⟨r, σ1, σ2, e1, e2, H3⟩ := s_force H2 (xs (i + 1)) (xs (i + 2)) (xs (i + 3))
  have h := HL.1
  have hg := HL.2.1
  refine x_aload_n h dL_law_545 rfl 1 rfl (q := 546) rfl ?_
  refine x_arg HL (n := 1) (by omega) dL_law_546 dL_law_547 dL_law_548 dL_law_549 dL_law_550 (by decide) rfl rfl rfl rfl (q := 551) rfl ?_
  refine x_arg HL (n := 2) (by omega) dL_law_551 dL_law_552 dL_law_553 dL_law_554 dL_law_555 (by decide) rfl rfl rfl rfl (q := 556) rfl ?_
  refine x_arg HL (n := 3) (by omega) dL_law_556 dL_law_557 dL_law_558 dL_law_559 dL_law_560 (by decide) rfl rfl rfl rfl (q := 561) rfl ?_
  refine x_callVi (As := [.int (xs (i + 1)), .int (xs (i + 2)), .int (xs (i + 3))]) (rest := []) h hg (c_X9_force C.2.1 hg.2.1 σ (xs (i + 1)) (xs (i + 2)) (xs (i + 3)) (r, σ1) e1) ml_L_71 biX9_force rfl rfl hdX9_force ⟨Nat.le_of_ble_eq_true rfl, Nat.le_of_ble_eq_true rfl⟩ (by decide) (cE_65 g _) rfl rfl rfl (Nat.le_of_ble_eq_true rfl) dL_law_561 ?_
  refine x_aload_n h dL_law_564 rfl 2 rfl (q := 565) rfl ?_
  refine x_arg HL (n := 1) (by omega) dL_law_565 dL_law_566 dL_law_567 dL_law_568 dL_law_569 (by decide) rfl rfl rfl rfl (q := 570) rfl ?_
  refine x_arg HL (n := 2) (by omega) dL_law_570 dL_law_571 dL_law_572 dL_law_573 dL_law_574 (by decide) rfl rfl rfl rfl (q := 575) rfl ?_
  refine x_arg HL (n := 3) (by omega) dL_law_575 dL_law_576 dL_law_577 dL_law_578 dL_law_579 (by decide) rfl rfl rfl rfl (q := 580) rfl ?_
  refine x_callVi (As := [.int (xs (i + 1)), .int (xs (i + 2)), .int (xs (i + 3))]) (rest := [.int r]) h hg (c_X10_force C.2.1 hg.2.1 σ1 (xs (i + 1)) (xs (i + 2)) (xs (i + 3)) (r, σ2) e2) ml_L_74 biX10_force rfl rfl hdX10_force ⟨Nat.le_of_ble_eq_true rfl, Nat.le_of_ble_eq_true rfl⟩ (by decide) (cE_87 g _) rfl rfl rfl (Nat.le_of_ble_eq_true rfl) dL_law_580 ?_
  refine x_icmp_eq (a := ()) (b := ()) (o := ()) h dL_law_583 (tgt := 1208) (by decide) (q := 586) rfl (ite_self _) (fun _ _ => k _ H3) (fun hc _ => absurd (show r = r from rfl) hc)
set_option maxHeartbeats 4000000 in
set_option maxRecDepth 100000 in
theorem lw_c12 (HL : lwH C g b L xs) (H2 : INV a σ) (hi : i + 5 ≤ L) (k : ∀ τ, INV a τ → Xs C (wW g) Q τ 1208 (lwV g b i) []) : Xs C (wW g) Q σ 588 (lwV g b i) [] := by
  obtain ⟨r, σ1, e1, e2, H3⟩ := s_reply H2 (xs (i + 1)) (xs (i + 2)) (xs (i + 3)) (xs (i + 4))
  have h := HL.1
  have hg := HL.2.1
  refine x_aload_n h dL_law_588 rfl 1 rfl (q := 589) rfl ?_
  refine x_arg HL (n := 1) (by omega) dL_law_589 dL_law_590 dL_law_591 dL_law_592 dL_law_593 (by decide) rfl rfl rfl rfl (q := 594) rfl ?_
  refine x_arg HL (n := 2) (by omega) dL_law_594 dL_law_595 dL_law_596 dL_law_597 dL_law_598 (by decide) rfl rfl rfl rfl (q := 599) rfl ?_
  refine x_arg HL (n := 3) (by omega) dL_law_599 dL_law_600 dL_law_601 dL_law_602 dL_law_603 (by decide) rfl rfl rfl rfl (q := 604) rfl ?_
  refine x_arg HL (n := 4) (by omega) dL_law_604 dL_law_605 dL_law_606 dL_law_607 dL_law_608 (by decide) rfl rfl rfl rfl (q := 609) rfl ?_
  refine x_callVi (As := [.int (xs (i + 1)), .int (xs (i + 2)), .int (xs (i + 3)), .int (xs (i + 4))]) (rest := []) h hg (c_X9_reply C.2.1 hg.2.1 σ (xs (i + 1)) (xs (i + 2)) (xs (i + 3)) (xs (i + 4)) (r, σ1) e1) ml_L_75 biX9_reply rfl rfl hdX9_reply ⟨Nat.le_of_ble_eq_true rfl, Nat.le_of_ble_eq_true rfl⟩ (by decide) (cE_65 g _) rfl rfl rfl (Nat.le_of_ble_eq_true rfl) dL_law_609 ?_
  refine x_aload_n h dL_law_612 rfl 2 rfl (q := 613) rfl ?_
  refine x_arg HL (n := 1) (by omega) dL_law_613 dL_law_614 dL_law_615 dL_law_616 dL_law_617 (by decide) rfl rfl rfl rfl (q := 618) rfl ?_
  refine x_arg HL (n := 2) (by omega) dL_law_618 dL_law_619 dL_law_620 dL_law_621 dL_law_622 (by decide) rfl rfl rfl rfl (q := 623) rfl ?_
  refine x_arg HL (n := 3) (by omega) dL_law_623 dL_law_624 dL_law_625 dL_law_626 dL_law_627 (by decide) rfl rfl rfl rfl (q := 628) rfl ?_
  refine x_arg HL (n := 4) (by omega) dL_law_628 dL_law_629 dL_law_630 dL_law_631 dL_law_632 (by decide) rfl rfl rfl rfl (q := 633) rfl ?_
  refine x_callVi (As := [.int (xs (i + 1)), .int (xs (i + 2)), .int (xs (i + 3)), .int (xs (i + 4))]) (rest := [.int r]) h hg (c_X10_reply C.2.1 hg.2.1 σ1 (xs (i + 1)) (xs (i + 2)) (xs (i + 3)) (xs (i + 4)) r e2) ml_L_78 biX10_reply rfl rfl hdX10_reply ⟨Nat.le_of_ble_eq_true rfl, Nat.le_of_ble_eq_true rfl⟩ (by decide) (cE_87 g _) rfl rfl rfl (Nat.le_of_ble_eq_true rfl) dL_law_633 ?_
  refine x_icmp_eq (a := ()) (b := ()) (o := ()) h dL_law_636 (tgt := 1208) (by decide) (q := 639) rfl (ite_self _) (fun _ _ => k _ H3) (fun hc _ => absurd (show r = r from rfl) hc)
set_option maxHeartbeats 4000000 in
set_option maxRecDepth 100000 in
theorem lw_c13 (HL : lwH C g b L xs) (H2 : INV a σ) (hi : i + 5 ≤ L) (k : ∀ τ, INV a τ → Xs C (wW g) Q τ 1208 (lwV g b i) []) : Xs C (wW g) Q σ 641 (lwV g b i) [] := by
  obtain ⟨r, σ1, σ2, e1, e2, H3⟩ := s_forced H2 (xs (i + 1)) (xs (i + 2))
  have h := HL.1
  have hg := HL.2.1
  refine x_aload_n h dL_law_641 rfl 1 rfl (q := 642) rfl ?_
  refine x_arg HL (n := 1) (by omega) dL_law_642 dL_law_643 dL_law_644 dL_law_645 dL_law_646 (by decide) rfl rfl rfl rfl (q := 647) rfl ?_
  refine x_arg HL (n := 2) (by omega) dL_law_647 dL_law_648 dL_law_649 dL_law_650 dL_law_651 (by decide) rfl rfl rfl rfl (q := 652) rfl ?_
  refine x_callVi (As := [.int (xs (i + 1)), .int (xs (i + 2))]) (rest := []) h hg (c_X9_forced C.2.1 hg.2.1 σ (xs (i + 1)) (xs (i + 2)) (r, σ1) e1) ml_L_79 biX9_forced rfl rfl hdX9_forced ⟨Nat.le_of_ble_eq_true rfl, Nat.le_of_ble_eq_true rfl⟩ (by decide) (cE_65 g _) rfl rfl rfl (Nat.le_of_ble_eq_true rfl) dL_law_652 ?_
  refine x_aload_n h dL_law_655 rfl 2 rfl (q := 656) rfl ?_
  refine x_arg HL (n := 1) (by omega) dL_law_656 dL_law_657 dL_law_658 dL_law_659 dL_law_660 (by decide) rfl rfl rfl rfl (q := 661) rfl ?_
  refine x_arg HL (n := 2) (by omega) dL_law_661 dL_law_662 dL_law_663 dL_law_664 dL_law_665 (by decide) rfl rfl rfl rfl (q := 666) rfl ?_
  refine x_callVi (As := [.int (xs (i + 1)), .int (xs (i + 2))]) (rest := [.int r]) h hg (c_X10_forced C.2.1 hg.2.1 σ1 (xs (i + 1)) (xs (i + 2)) (r, σ2) e2) ml_L_82 biX10_forced rfl rfl hdX10_forced ⟨Nat.le_of_ble_eq_true rfl, Nat.le_of_ble_eq_true rfl⟩ (by decide) (cE_87 g _) rfl rfl rfl (Nat.le_of_ble_eq_true rfl) dL_law_666 ?_
  refine x_icmp_eq (a := ()) (b := ()) (o := ()) h dL_law_669 (tgt := 1208) (by decide) (q := 672) rfl (ite_self _) (fun _ _ => k _ H3) (fun hc _ => absurd (show r = r from rfl) hc)
set_option maxHeartbeats 4000000 in
set_option maxRecDepth 100000 in
theorem lw_c14 (HL : lwH C g b L xs) (H2 : INV a σ) (hi : i + 5 ≤ L) (k : ∀ τ, INV a τ → Xs C (wW g) Q τ 1208 (lwV g b i) []) : Xs C (wW g) Q σ 674 (lwV g b i) [] := by
  obtain ⟨σ2, e2, H3⟩ := s_type H2 (xs (i + 1))
  have h := HL.1
  have hg := HL.2.1
  refine x_aload_n h dL_law_674 rfl 1 rfl (q := 675) rfl ?_
  refine x_arg HL (n := 1) (by omega) dL_law_675 dL_law_676 dL_law_677 dL_law_678 dL_law_679 (by decide) rfl rfl rfl rfl (q := 680) rfl ?_
  refine x_callVi (As := [.int (xs (i + 1))]) (rest := []) h hg (c_X9_type C.2.1 hg.2.1 σ (xs (i + 1)) _ rfl) ml_L_83 biX9_type rfl rfl hdX9_type ⟨Nat.le_of_ble_eq_true rfl, Nat.le_of_ble_eq_true rfl⟩ (by decide) (cE_65 g _) rfl rfl rfl (Nat.le_of_ble_eq_true rfl) dL_law_680 ?_
  refine x_aload_n h dL_law_683 rfl 2 rfl (q := 684) rfl ?_
  refine x_arg HL (n := 1) (by omega) dL_law_684 dL_law_685 dL_law_686 dL_law_687 dL_law_688 (by decide) rfl rfl rfl rfl (q := 689) rfl ?_
  refine x_callVi (As := [.int (xs (i + 1))]) (rest := [.int (m_X9_type σ (xs (i + 1))).1]) h hg (c_X10_type C.2.1 hg.2.1 (m_X9_type σ (xs (i + 1))).2 (xs (i + 1)) ((m_X9_type σ (xs (i + 1))).1, σ2) e2) ml_L_86 biX10_type rfl rfl hdX10_type ⟨Nat.le_of_ble_eq_true rfl, Nat.le_of_ble_eq_true rfl⟩ (by decide) (cE_87 g _) rfl rfl rfl (Nat.le_of_ble_eq_true rfl) dL_law_689 ?_
  refine x_icmp_eq (a := ()) (b := ()) (o := ()) h dL_law_692 (tgt := 1208) (by decide) (q := 695) rfl (ite_self _) (fun _ _ => k _ H3) (fun hc _ => absurd (show (m_X9_type σ (xs (i + 1))).1 = (m_X9_type σ (xs (i + 1))).1 from rfl) hc)
set_option maxHeartbeats 4000000 in
set_option maxRecDepth 100000 in
theorem lw_c15 (HL : lwH C g b L xs) (H2 : INV a σ) (hi : i + 5 ≤ L) (k : ∀ τ, INV a τ → Xs C (wW g) Q τ 1208 (lwV g b i) []) : Xs C (wW g) Q σ 697 (lwV g b i) [] := by
  obtain ⟨e2, H3⟩ := s_clear H2
  have h := HL.1
  have hg := HL.2.1
  refine x_aload_n h dL_law_697 rfl 1 rfl (q := 698) rfl ?_
  refine x_callVi (As := []) (rest := []) h hg (c_X9_clear C.2.1 hg.2.1 σ _ rfl) ml_L_87 biX9_clear rfl rfl hdX9_clear ⟨Nat.le_of_ble_eq_true rfl, Nat.le_of_ble_eq_true rfl⟩ (by decide) (cE_65 g _) rfl rfl rfl (Nat.le_of_ble_eq_true rfl) dL_law_698 ?_
  refine x_aload_n h dL_law_701 rfl 2 rfl (q := 702) rfl ?_
  refine x_callVi (As := []) (rest := [.int (m_X9_clear σ).1]) h hg (c_X10_clear C.2.1 hg.2.1 (m_X9_clear σ).2 _ rfl) ml_L_90 biX10_clear rfl rfl hdX10_clear ⟨Nat.le_of_ble_eq_true rfl, Nat.le_of_ble_eq_true rfl⟩ (by decide) (cE_87 g _) rfl rfl rfl (Nat.le_of_ble_eq_true rfl) dL_law_702 ?_
  refine x_icmp_eq (a := ()) (b := ()) (o := ()) h dL_law_705 (tgt := 1208) (by decide) (q := 708) rfl (ite_self _) (fun _ _ => k _ H3) (fun hc _ => absurd (show (m_X9_clear σ).1 = (m_X10_clear (m_X9_clear σ).2).1 from e2) hc)
set_option maxHeartbeats 4000000 in
set_option maxRecDepth 100000 in
theorem lw_c16 (HL : lwH C g b L xs) (H2 : INV a σ) (hi : i + 5 ≤ L) (k : ∀ τ, INV a τ → Xs C (wW g) Q τ 1208 (lwV g b i) []) : Xs C (wW g) Q σ 710 (lwV g b i) [] := by
  obtain ⟨r, σ1, σ2, e1, e2, H3⟩ := s_read H2
  have h := HL.1
  have hg := HL.2.1
  refine x_aload_n h dL_law_710 rfl 1 rfl (q := 711) rfl ?_
  refine x_callVi (As := []) (rest := []) h hg (c_X9_read C.2.1 hg.2.1 σ (r, σ1) e1) ml_L_91 biX9_read rfl rfl hdX9_read ⟨Nat.le_of_ble_eq_true rfl, Nat.le_of_ble_eq_true rfl⟩ (by decide) (cE_65 g _) rfl rfl rfl (Nat.le_of_ble_eq_true rfl) dL_law_711 ?_
  refine x_aload_n h dL_law_714 rfl 2 rfl (q := 715) rfl ?_
  refine x_callVi (As := []) (rest := [.int r]) h hg (c_X10_read C.2.1 hg.2.1 σ1 (r, σ2) e2) ml_L_94 biX10_read rfl rfl hdX10_read ⟨Nat.le_of_ble_eq_true rfl, Nat.le_of_ble_eq_true rfl⟩ (by decide) (cE_87 g _) rfl rfl rfl (Nat.le_of_ble_eq_true rfl) dL_law_715 ?_
  refine x_icmp_eq (a := ()) (b := ()) (o := ()) h dL_law_718 (tgt := 1208) (by decide) (q := 721) rfl (ite_self _) (fun _ _ => k _ H3) (fun hc _ => absurd (show r = r from rfl) hc)
set_option maxHeartbeats 4000000 in
set_option maxRecDepth 100000 in
theorem lw_c17 (HL : lwH C g b L xs) (H2 : INV a σ) (hi : i + 5 ≤ L) (k : ∀ τ, INV a τ → Xs C (wW g) Q τ 1208 (lwV g b i) []) : Xs C (wW g) Q σ 723 (lwV g b i) [] := by
  obtain ⟨e2, H3⟩ := s_forget H2
  have h := HL.1
  have hg := HL.2.1
  refine x_aload_n h dL_law_723 rfl 1 rfl (q := 724) rfl ?_
  refine x_callVi (As := []) (rest := []) h hg (c_X9_forget C.2.1 hg.2.1 σ _ rfl) ml_L_95 biX9_forget rfl rfl hdX9_forget ⟨Nat.le_of_ble_eq_true rfl, Nat.le_of_ble_eq_true rfl⟩ (by decide) (cE_65 g _) rfl rfl rfl (Nat.le_of_ble_eq_true rfl) dL_law_724 ?_
  refine x_aload_n h dL_law_727 rfl 2 rfl (q := 728) rfl ?_
  refine x_callVi (As := []) (rest := [.int (m_X9_forget σ).1]) h hg (c_X10_forget C.2.1 hg.2.1 (m_X9_forget σ).2 _ rfl) ml_L_98 biX10_forget rfl rfl hdX10_forget ⟨Nat.le_of_ble_eq_true rfl, Nat.le_of_ble_eq_true rfl⟩ (by decide) (cE_87 g _) rfl rfl rfl (Nat.le_of_ble_eq_true rfl) dL_law_728 ?_
  refine x_icmp_eq (a := ()) (b := ()) (o := ()) h dL_law_731 (tgt := 1208) (by decide) (q := 734) rfl (ite_self _) (fun _ _ => k _ H3) (fun hc _ => absurd (show (m_X9_forget σ).1 = (m_X10_forget (m_X9_forget σ).2).1 from e2) hc)
set_option maxHeartbeats 4000000 in
set_option maxRecDepth 100000 in
theorem lw_c18 (HL : lwH C g b L xs) (H2 : INV a σ) (hi : i + 5 ≤ L) (k : ∀ τ, INV a τ → Xs C (wW g) Q τ 1208 (lwV g b i) []) : Xs C (wW g) Q σ 736 (lwV g b i) [] := by
  have e2 := s_formulas H2
  have H3 := H2
  have h := HL.1
  have hg := HL.2.1
  refine x_aload_n h dL_law_736 rfl 1 rfl (q := 737) rfl ?_
  refine x_callVi (As := []) (rest := []) h hg (c_X9_formulas C.2.1 hg.2.1 σ _ rfl) ml_L_99 biX9_formulas rfl rfl hdX9_formulas ⟨Nat.le_of_ble_eq_true rfl, Nat.le_of_ble_eq_true rfl⟩ (by decide) (cE_65 g _) rfl rfl rfl (Nat.le_of_ble_eq_true rfl) dL_law_737 ?_
  refine x_aload_n h dL_law_740 rfl 2 rfl (q := 741) rfl ?_
  refine x_callVi (As := []) (rest := [.int (m_X9_formulas σ)]) h hg (c_X10_formulas C.2.1 hg.2.1 σ _ rfl) ml_L_102 biX10_formulas rfl rfl hdX10_formulas ⟨Nat.le_of_ble_eq_true rfl, Nat.le_of_ble_eq_true rfl⟩ (by decide) (cE_87 g _) rfl rfl rfl (Nat.le_of_ble_eq_true rfl) dL_law_741 ?_
  refine x_icmp_eq (a := ()) (b := ()) (o := ()) h dL_law_744 (tgt := 1208) (by decide) (q := 747) rfl (ite_self _) (fun _ _ => k _ H3) (fun hc _ => absurd (show (m_X9_formulas σ) = (m_X10_formulas σ) from e2) hc)
set_option maxHeartbeats 4000000 in
set_option maxRecDepth 100000 in
theorem lw_c19 (HL : lwH C g b L xs) (H2 : INV a σ) (hi : i + 5 ≤ L) (k : ∀ τ, INV a τ → Xs C (wW g) Q τ 1208 (lwV g b i) []) : Xs C (wW g) Q σ 749 (lwV g b i) [] := by
  obtain ⟨r, e1, e2⟩ := s_parts H2 (xs (i + 1))
  have H3 := H2
  have h := HL.1
  have hg := HL.2.1
  refine x_aload_n h dL_law_749 rfl 1 rfl (q := 750) rfl ?_
  refine x_arg HL (n := 1) (by omega) dL_law_750 dL_law_751 dL_law_752 dL_law_753 dL_law_754 (by decide) rfl rfl rfl rfl (q := 755) rfl ?_
  refine x_callVi (As := [.int (xs (i + 1))]) (rest := []) h hg (c_X9_parts C.2.1 hg.2.1 σ (xs (i + 1)) r e1) ml_L_103 biX9_parts rfl rfl hdX9_parts ⟨Nat.le_of_ble_eq_true rfl, Nat.le_of_ble_eq_true rfl⟩ (by decide) (cE_65 g _) rfl rfl rfl (Nat.le_of_ble_eq_true rfl) dL_law_755 ?_
  refine x_aload_n h dL_law_758 rfl 2 rfl (q := 759) rfl ?_
  refine x_arg HL (n := 1) (by omega) dL_law_759 dL_law_760 dL_law_761 dL_law_762 dL_law_763 (by decide) rfl rfl rfl rfl (q := 764) rfl ?_
  refine x_callVi (As := [.int (xs (i + 1))]) (rest := [.int r]) h hg (c_X10_parts C.2.1 hg.2.1 σ (xs (i + 1)) r e2) ml_L_106 biX10_parts rfl rfl hdX10_parts ⟨Nat.le_of_ble_eq_true rfl, Nat.le_of_ble_eq_true rfl⟩ (by decide) (cE_87 g _) rfl rfl rfl (Nat.le_of_ble_eq_true rfl) dL_law_764 ?_
  refine x_icmp_eq (a := ()) (b := ()) (o := ()) h dL_law_767 (tgt := 1208) (by decide) (q := 770) rfl (ite_self _) (fun _ _ => k _ H3) (fun hc _ => absurd (show r = r from rfl) hc)
set_option maxHeartbeats 4000000 in
set_option maxRecDepth 100000 in
theorem lw_c20 (HL : lwH C g b L xs) (H2 : INV a σ) (hi : i + 5 ≤ L) (k : ∀ τ, INV a τ → Xs C (wW g) Q τ 1208 (lwV g b i) []) : Xs C (wW g) Q σ 772 (lwV g b i) [] := by
  obtain ⟨r, σ1, σ2, e1, e2, H3⟩ := s_where H2 (xs (i + 1)) (xs (i + 2))
  have h := HL.1
  have hg := HL.2.1
  refine x_aload_n h dL_law_772 rfl 1 rfl (q := 773) rfl ?_
  refine x_arg HL (n := 1) (by omega) dL_law_773 dL_law_774 dL_law_775 dL_law_776 dL_law_777 (by decide) rfl rfl rfl rfl (q := 778) rfl ?_
  refine x_arg HL (n := 2) (by omega) dL_law_778 dL_law_779 dL_law_780 dL_law_781 dL_law_782 (by decide) rfl rfl rfl rfl (q := 783) rfl ?_
  refine x_callVi (As := [.int (xs (i + 1)), .int (xs (i + 2))]) (rest := []) h hg (c_X9_where C.2.1 hg.2.1 σ (xs (i + 1)) (xs (i + 2)) (r, σ1) e1) ml_L_107 biX9_where rfl rfl hdX9_where ⟨Nat.le_of_ble_eq_true rfl, Nat.le_of_ble_eq_true rfl⟩ (by decide) (cE_65 g _) rfl rfl rfl (Nat.le_of_ble_eq_true rfl) dL_law_783 ?_
  refine x_aload_n h dL_law_786 rfl 2 rfl (q := 787) rfl ?_
  refine x_arg HL (n := 1) (by omega) dL_law_787 dL_law_788 dL_law_789 dL_law_790 dL_law_791 (by decide) rfl rfl rfl rfl (q := 792) rfl ?_
  refine x_arg HL (n := 2) (by omega) dL_law_792 dL_law_793 dL_law_794 dL_law_795 dL_law_796 (by decide) rfl rfl rfl rfl (q := 797) rfl ?_
  refine x_callVi (As := [.int (xs (i + 1)), .int (xs (i + 2))]) (rest := [.int r]) h hg (c_X10_where C.2.1 hg.2.1 σ1 (xs (i + 1)) (xs (i + 2)) (r, σ2) e2) ml_L_110 biX10_where rfl rfl hdX10_where ⟨Nat.le_of_ble_eq_true rfl, Nat.le_of_ble_eq_true rfl⟩ (by decide) (cE_87 g _) rfl rfl rfl (Nat.le_of_ble_eq_true rfl) dL_law_797 ?_
  refine x_icmp_eq (a := ()) (b := ()) (o := ()) h dL_law_800 (tgt := 1208) (by decide) (q := 803) rfl (ite_self _) (fun _ _ => k _ H3) (fun hc _ => absurd (show r = r from rfl) hc)
set_option maxHeartbeats 4000000 in
set_option maxRecDepth 100000 in
theorem lw_c21 (HL : lwH C g b L xs) (H2 : INV a σ) (hi : i + 5 ≤ L) (k : ∀ τ, INV a τ → Xs C (wW g) Q τ 1208 (lwV g b i) []) : Xs C (wW g) Q σ 805 (lwV g b i) [] := by
  obtain ⟨r, σ1, σ2, e1, e2, H3⟩ := s_holds H2 (xs (i + 1)) (xs (i + 2))
  have h := HL.1
  have hg := HL.2.1
  refine x_aload_n h dL_law_805 rfl 1 rfl (q := 806) rfl ?_
  refine x_arg HL (n := 1) (by omega) dL_law_806 dL_law_807 dL_law_808 dL_law_809 dL_law_810 (by decide) rfl rfl rfl rfl (q := 811) rfl ?_
  refine x_arg HL (n := 2) (by omega) dL_law_811 dL_law_812 dL_law_813 dL_law_814 dL_law_815 (by decide) rfl rfl rfl rfl (q := 816) rfl ?_
  refine x_callVi (As := [.int (xs (i + 1)), .int (xs (i + 2))]) (rest := []) h hg (c_X9_holds C.2.1 hg.2.1 σ (xs (i + 1)) (xs (i + 2)) (r, σ1) e1) ml_L_111 biX9_holds rfl rfl hdX9_holds ⟨Nat.le_of_ble_eq_true rfl, Nat.le_of_ble_eq_true rfl⟩ (by decide) (cE_65 g _) rfl rfl rfl (Nat.le_of_ble_eq_true rfl) dL_law_816 ?_
  refine x_aload_n h dL_law_819 rfl 2 rfl (q := 820) rfl ?_
  refine x_arg HL (n := 1) (by omega) dL_law_820 dL_law_821 dL_law_822 dL_law_823 dL_law_824 (by decide) rfl rfl rfl rfl (q := 825) rfl ?_
  refine x_arg HL (n := 2) (by omega) dL_law_825 dL_law_826 dL_law_827 dL_law_828 dL_law_829 (by decide) rfl rfl rfl rfl (q := 830) rfl ?_
  refine x_callVi (As := [.int (xs (i + 1)), .int (xs (i + 2))]) (rest := [.int r]) h hg (c_X10_holds C.2.1 hg.2.1 σ1 (xs (i + 1)) (xs (i + 2)) (r, σ2) e2) ml_L_114 biX10_holds rfl rfl hdX10_holds ⟨Nat.le_of_ble_eq_true rfl, Nat.le_of_ble_eq_true rfl⟩ (by decide) (cE_87 g _) rfl rfl rfl (Nat.le_of_ble_eq_true rfl) dL_law_830 ?_
  refine x_icmp_eq (a := ()) (b := ()) (o := ()) h dL_law_833 (tgt := 1208) (by decide) (q := 836) rfl (ite_self _) (fun _ _ => k _ H3) (fun hc _ => absurd (show r = r from rfl) hc)
set_option maxHeartbeats 4000000 in
set_option maxRecDepth 100000 in
theorem lw_c22 (HL : lwH C g b L xs) (H2 : INV a σ) (hi : i + 5 ≤ L) (k : ∀ τ, INV a τ → Xs C (wW g) Q τ 1208 (lwV g b i) []) : Xs C (wW g) Q σ 838 (lwV g b i) [] := by
  obtain ⟨r, σ1, σ2, e1, e2, H3⟩ := s_counter H2 (xs (i + 1)) (xs (i + 2))
  have h := HL.1
  have hg := HL.2.1
  refine x_aload_n h dL_law_838 rfl 1 rfl (q := 839) rfl ?_
  refine x_arg HL (n := 1) (by omega) dL_law_839 dL_law_840 dL_law_841 dL_law_842 dL_law_843 (by decide) rfl rfl rfl rfl (q := 844) rfl ?_
  refine x_arg HL (n := 2) (by omega) dL_law_844 dL_law_845 dL_law_846 dL_law_847 dL_law_848 (by decide) rfl rfl rfl rfl (q := 849) rfl ?_
  refine x_callVi (As := [.int (xs (i + 1)), .int (xs (i + 2))]) (rest := []) h hg (c_X9_counterexample C.2.1 hg.2.1 σ (xs (i + 1)) (xs (i + 2)) (r, σ1) e1) ml_L_115 biX9_counterexample rfl rfl hdX9_counterexample ⟨Nat.le_of_ble_eq_true rfl, Nat.le_of_ble_eq_true rfl⟩ (by decide) (cE_65 g _) rfl rfl rfl (Nat.le_of_ble_eq_true rfl) dL_law_849 ?_
  refine x_aload_n h dL_law_852 rfl 2 rfl (q := 853) rfl ?_
  refine x_arg HL (n := 1) (by omega) dL_law_853 dL_law_854 dL_law_855 dL_law_856 dL_law_857 (by decide) rfl rfl rfl rfl (q := 858) rfl ?_
  refine x_arg HL (n := 2) (by omega) dL_law_858 dL_law_859 dL_law_860 dL_law_861 dL_law_862 (by decide) rfl rfl rfl rfl (q := 863) rfl ?_
  refine x_callVi (As := [.int (xs (i + 1)), .int (xs (i + 2))]) (rest := [.int r]) h hg (c_X10_counterexample C.2.1 hg.2.1 σ1 (xs (i + 1)) (xs (i + 2)) (r, σ2) e2) ml_L_118 biX10_counterexample rfl rfl hdX10_counterexample ⟨Nat.le_of_ble_eq_true rfl, Nat.le_of_ble_eq_true rfl⟩ (by decide) (cE_87 g _) rfl rfl rfl (Nat.le_of_ble_eq_true rfl) dL_law_863 ?_
  refine x_icmp_eq (a := ()) (b := ()) (o := ()) h dL_law_866 (tgt := 1208) (by decide) (q := 869) rfl (ite_self _) (fun _ _ => k _ H3) (fun hc _ => absurd (show r = r from rfl) hc)
set_option maxHeartbeats 4000000 in
set_option maxRecDepth 100000 in
theorem lw_c23 (HL : lwH C g b L xs) (H2 : INV a σ) (hi : i + 5 ≤ L) (k : ∀ τ, INV a τ → Xs C (wW g) Q τ 1208 (lwV g b i) []) : Xs C (wW g) Q σ 871 (lwV g b i) [] := by
  obtain ⟨r, σ1, σ2, e1, e2, H3⟩ := s_rank H2 (xs (i + 1)) (xs (i + 2))
  have h := HL.1
  have hg := HL.2.1
  refine x_aload_n h dL_law_871 rfl 1 rfl (q := 872) rfl ?_
  refine x_arg HL (n := 1) (by omega) dL_law_872 dL_law_873 dL_law_874 dL_law_875 dL_law_876 (by decide) rfl rfl rfl rfl (q := 877) rfl ?_
  refine x_arg HL (n := 2) (by omega) dL_law_877 dL_law_878 dL_law_879 dL_law_880 dL_law_881 (by decide) rfl rfl rfl rfl (q := 882) rfl ?_
  refine x_callVi (As := [.int (xs (i + 1)), .int (xs (i + 2))]) (rest := []) h hg (c_X9_rank C.2.1 hg.2.1 σ (xs (i + 1)) (xs (i + 2)) (r, σ1) e1) ml_L_119 biX9_rank rfl rfl hdX9_rank ⟨Nat.le_of_ble_eq_true rfl, Nat.le_of_ble_eq_true rfl⟩ (by decide) (cE_65 g _) rfl rfl rfl (Nat.le_of_ble_eq_true rfl) dL_law_882 ?_
  refine x_aload_n h dL_law_885 rfl 2 rfl (q := 886) rfl ?_
  refine x_arg HL (n := 1) (by omega) dL_law_886 dL_law_887 dL_law_888 dL_law_889 dL_law_890 (by decide) rfl rfl rfl rfl (q := 891) rfl ?_
  refine x_arg HL (n := 2) (by omega) dL_law_891 dL_law_892 dL_law_893 dL_law_894 dL_law_895 (by decide) rfl rfl rfl rfl (q := 896) rfl ?_
  refine x_callVi (As := [.int (xs (i + 1)), .int (xs (i + 2))]) (rest := [.int r]) h hg (c_X10_rank C.2.1 hg.2.1 σ1 (xs (i + 1)) (xs (i + 2)) (r, σ2) e2) ml_L_122 biX10_rank rfl rfl hdX10_rank ⟨Nat.le_of_ble_eq_true rfl, Nat.le_of_ble_eq_true rfl⟩ (by decide) (cE_87 g _) rfl rfl rfl (Nat.le_of_ble_eq_true rfl) dL_law_896 ?_
  refine x_icmp_eq (a := ()) (b := ()) (o := ()) h dL_law_899 (tgt := 1208) (by decide) (q := 902) rfl (ite_self _) (fun _ _ => k _ H3) (fun hc _ => absurd (show r = r from rfl) hc)
set_option maxHeartbeats 4000000 in
set_option maxRecDepth 100000 in
theorem lw_c24 (HL : lwH C g b L xs) (H2 : INV a σ) (hi : i + 5 ≤ L) (k : ∀ τ, INV a τ → Xs C (wW g) Q τ 1208 (lwV g b i) []) : Xs C (wW g) Q σ 904 (lwV g b i) [] := by
  obtain ⟨r, σ1, σ2, e1, e2, H3⟩ := s_strategy H2 (xs (i + 1)) (xs (i + 2))
  have h := HL.1
  have hg := HL.2.1
  refine x_aload_n h dL_law_904 rfl 1 rfl (q := 905) rfl ?_
  refine x_arg HL (n := 1) (by omega) dL_law_905 dL_law_906 dL_law_907 dL_law_908 dL_law_909 (by decide) rfl rfl rfl rfl (q := 910) rfl ?_
  refine x_arg HL (n := 2) (by omega) dL_law_910 dL_law_911 dL_law_912 dL_law_913 dL_law_914 (by decide) rfl rfl rfl rfl (q := 915) rfl ?_
  refine x_callVi (As := [.int (xs (i + 1)), .int (xs (i + 2))]) (rest := []) h hg (c_X9_strategy C.2.1 hg.2.1 σ (xs (i + 1)) (xs (i + 2)) (r, σ1) e1) ml_L_123 biX9_strategy rfl rfl hdX9_strategy ⟨Nat.le_of_ble_eq_true rfl, Nat.le_of_ble_eq_true rfl⟩ (by decide) (cE_65 g _) rfl rfl rfl (Nat.le_of_ble_eq_true rfl) dL_law_915 ?_
  refine x_aload_n h dL_law_918 rfl 2 rfl (q := 919) rfl ?_
  refine x_arg HL (n := 1) (by omega) dL_law_919 dL_law_920 dL_law_921 dL_law_922 dL_law_923 (by decide) rfl rfl rfl rfl (q := 924) rfl ?_
  refine x_arg HL (n := 2) (by omega) dL_law_924 dL_law_925 dL_law_926 dL_law_927 dL_law_928 (by decide) rfl rfl rfl rfl (q := 929) rfl ?_
  refine x_callVi (As := [.int (xs (i + 1)), .int (xs (i + 2))]) (rest := [.int r]) h hg (c_X10_strategy C.2.1 hg.2.1 σ1 (xs (i + 1)) (xs (i + 2)) (r, σ2) e2) ml_L_126 biX10_strategy rfl rfl hdX10_strategy ⟨Nat.le_of_ble_eq_true rfl, Nat.le_of_ble_eq_true rfl⟩ (by decide) (cE_87 g _) rfl rfl rfl (Nat.le_of_ble_eq_true rfl) dL_law_929 ?_
  refine x_icmp_eq (a := ()) (b := ()) (o := ()) h dL_law_932 (tgt := 1208) (by decide) (q := 935) rfl (ite_self _) (fun _ _ => k _ H3) (fun hc _ => absurd (show r = r from rfl) hc)
set_option maxHeartbeats 4000000 in
set_option maxRecDepth 100000 in
theorem lw_c25 (HL : lwH C g b L xs) (H2 : INV a σ) (hi : i + 5 ≤ L) (k : ∀ τ, INV a τ → Xs C (wW g) Q τ 1208 (lwV g b i) []) : Xs C (wW g) Q σ 937 (lwV g b i) [] := by
  obtain ⟨r, σ1, σ2, e1, e2, H3⟩ := s_plan H2 (xs (i + 1)) (xs (i + 2)) (xs (i + 3))
  have h := HL.1
  have hg := HL.2.1
  refine x_aload_n h dL_law_937 rfl 1 rfl (q := 938) rfl ?_
  refine x_arg HL (n := 1) (by omega) dL_law_938 dL_law_939 dL_law_940 dL_law_941 dL_law_942 (by decide) rfl rfl rfl rfl (q := 943) rfl ?_
  refine x_arg HL (n := 2) (by omega) dL_law_943 dL_law_944 dL_law_945 dL_law_946 dL_law_947 (by decide) rfl rfl rfl rfl (q := 948) rfl ?_
  refine x_arg HL (n := 3) (by omega) dL_law_948 dL_law_949 dL_law_950 dL_law_951 dL_law_952 (by decide) rfl rfl rfl rfl (q := 953) rfl ?_
  refine x_callVi (As := [.int (xs (i + 1)), .int (xs (i + 2)), .int (xs (i + 3))]) (rest := []) h hg (c_X9_plan C.2.1 hg.2.1 σ (xs (i + 1)) (xs (i + 2)) (xs (i + 3)) (r, σ1) e1) ml_L_127 biX9_plan rfl rfl hdX9_plan ⟨Nat.le_of_ble_eq_true rfl, Nat.le_of_ble_eq_true rfl⟩ (by decide) (cE_65 g _) rfl rfl rfl (Nat.le_of_ble_eq_true rfl) dL_law_953 ?_
  refine x_aload_n h dL_law_956 rfl 2 rfl (q := 957) rfl ?_
  refine x_arg HL (n := 1) (by omega) dL_law_957 dL_law_958 dL_law_959 dL_law_960 dL_law_961 (by decide) rfl rfl rfl rfl (q := 962) rfl ?_
  refine x_arg HL (n := 2) (by omega) dL_law_962 dL_law_963 dL_law_964 dL_law_965 dL_law_966 (by decide) rfl rfl rfl rfl (q := 967) rfl ?_
  refine x_arg HL (n := 3) (by omega) dL_law_967 dL_law_968 dL_law_969 dL_law_970 dL_law_971 (by decide) rfl rfl rfl rfl (q := 972) rfl ?_
  refine x_callVi (As := [.int (xs (i + 1)), .int (xs (i + 2)), .int (xs (i + 3))]) (rest := [.int r]) h hg (c_X10_plan C.2.1 hg.2.1 σ1 (xs (i + 1)) (xs (i + 2)) (xs (i + 3)) (r, σ2) e2) ml_L_130 biX10_plan rfl rfl hdX10_plan ⟨Nat.le_of_ble_eq_true rfl, Nat.le_of_ble_eq_true rfl⟩ (by decide) (cE_87 g _) rfl rfl rfl (Nat.le_of_ble_eq_true rfl) dL_law_972 ?_
  refine x_icmp_eq (a := ()) (b := ()) (o := ()) h dL_law_975 (tgt := 1208) (by decide) (q := 978) rfl (ite_self _) (fun _ _ => k _ H3) (fun hc _ => absurd (show r = r from rfl) hc)
set_option maxHeartbeats 4000000 in
set_option maxRecDepth 100000 in
theorem lw_c26 (HL : lwH C g b L xs) (H2 : INV a σ) (hi : i + 5 ≤ L) (k : ∀ τ, INV a τ → Xs C (wW g) Q τ 1208 (lwV g b i) []) : Xs C (wW g) Q σ 980 (lwV g b i) [] := by
  obtain ⟨r, σ1, σ2, e1, e2, H3⟩ := s_adopt H2 (xs (i + 1))
  have h := HL.1
  have hg := HL.2.1
  refine x_aload_n h dL_law_980 rfl 1 rfl (q := 981) rfl ?_
  refine x_arg HL (n := 1) (by omega) dL_law_981 dL_law_982 dL_law_983 dL_law_984 dL_law_985 (by decide) rfl rfl rfl rfl (q := 986) rfl ?_
  refine x_callVi (As := [.int (xs (i + 1))]) (rest := []) h hg (c_X9_adopt C.2.1 hg.2.1 σ (xs (i + 1)) (r, σ1) e1) ml_L_131 biX9_adopt rfl rfl hdX9_adopt ⟨Nat.le_of_ble_eq_true rfl, Nat.le_of_ble_eq_true rfl⟩ (by decide) (cE_65 g _) rfl rfl rfl (Nat.le_of_ble_eq_true rfl) dL_law_986 ?_
  refine x_aload_n h dL_law_989 rfl 2 rfl (q := 990) rfl ?_
  refine x_arg HL (n := 1) (by omega) dL_law_990 dL_law_991 dL_law_992 dL_law_993 dL_law_994 (by decide) rfl rfl rfl rfl (q := 995) rfl ?_
  refine x_callVi (As := [.int (xs (i + 1))]) (rest := [.int r]) h hg (c_X10_adopt C.2.1 hg.2.1 σ1 (xs (i + 1)) (r, σ2) e2) ml_L_134 biX10_adopt rfl rfl hdX10_adopt ⟨Nat.le_of_ble_eq_true rfl, Nat.le_of_ble_eq_true rfl⟩ (by decide) (cE_87 g _) rfl rfl rfl (Nat.le_of_ble_eq_true rfl) dL_law_995 ?_
  refine x_icmp_eq (a := ()) (b := ()) (o := ()) h dL_law_998 (tgt := 1208) (by decide) (q := 1001) rfl (ite_self _) (fun _ _ => k _ H3) (fun hc _ => absurd (show r = r from rfl) hc)
set_option maxHeartbeats 4000000 in
set_option maxRecDepth 100000 in
theorem lw_c27 (HL : lwH C g b L xs) (H2 : INV a σ) (hi : i + 5 ≤ L) (k : ∀ τ, INV a τ → Xs C (wW g) Q τ 1208 (lwV g b i) []) : Xs C (wW g) Q σ 1003 (lwV g b i) [] := by
  have e2 := s_planned H2 (xs (i + 1)) (xs (i + 2))
  have H3 := H2
  have h := HL.1
  have hg := HL.2.1
  refine x_aload_n h dL_law_1003 rfl 1 rfl (q := 1004) rfl ?_
  refine x_arg HL (n := 1) (by omega) dL_law_1004 dL_law_1005 dL_law_1006 dL_law_1007 dL_law_1008 (by decide) rfl rfl rfl rfl (q := 1009) rfl ?_
  refine x_arg HL (n := 2) (by omega) dL_law_1009 dL_law_1010 dL_law_1011 dL_law_1012 dL_law_1013 (by decide) rfl rfl rfl rfl (q := 1014) rfl ?_
  refine x_callVi (As := [.int (xs (i + 1)), .int (xs (i + 2))]) (rest := []) h hg (c_X9_planned C.2.1 hg.2.1 σ (xs (i + 1)) (xs (i + 2)) _ rfl) ml_L_135 biX9_planned rfl rfl hdX9_planned ⟨Nat.le_of_ble_eq_true rfl, Nat.le_of_ble_eq_true rfl⟩ (by decide) (cE_65 g _) rfl rfl rfl (Nat.le_of_ble_eq_true rfl) dL_law_1014 ?_
  refine x_aload_n h dL_law_1017 rfl 2 rfl (q := 1018) rfl ?_
  refine x_arg HL (n := 1) (by omega) dL_law_1018 dL_law_1019 dL_law_1020 dL_law_1021 dL_law_1022 (by decide) rfl rfl rfl rfl (q := 1023) rfl ?_
  refine x_arg HL (n := 2) (by omega) dL_law_1023 dL_law_1024 dL_law_1025 dL_law_1026 dL_law_1027 (by decide) rfl rfl rfl rfl (q := 1028) rfl ?_
  refine x_callVi (As := [.int (xs (i + 1)), .int (xs (i + 2))]) (rest := [.int (m_X9_planned σ (xs (i + 1)) (xs (i + 2)))]) h hg (c_X10_planned C.2.1 hg.2.1 σ (xs (i + 1)) (xs (i + 2)) (m_X9_planned σ (xs (i + 1)) (xs (i + 2))) e2) ml_L_138 biX10_planned rfl rfl hdX10_planned ⟨Nat.le_of_ble_eq_true rfl, Nat.le_of_ble_eq_true rfl⟩ (by decide) (cE_87 g _) rfl rfl rfl (Nat.le_of_ble_eq_true rfl) dL_law_1028 ?_
  refine x_icmp_eq (a := ()) (b := ()) (o := ()) h dL_law_1031 (tgt := 1208) (by decide) (q := 1034) rfl (ite_self _) (fun _ _ => k _ H3) (fun hc _ => absurd (show (m_X9_planned σ (xs (i + 1)) (xs (i + 2))) = (m_X9_planned σ (xs (i + 1)) (xs (i + 2))) from rfl) hc)
set_option maxHeartbeats 4000000 in
set_option maxRecDepth 100000 in
theorem lw_c28 (HL : lwH C g b L xs) (H2 : INV a σ) (hi : i + 5 ≤ L) (k : ∀ τ, INV a τ → Xs C (wW g) Q τ 1208 (lwV g b i) []) : Xs C (wW g) Q σ 1036 (lwV g b i) [] := by
  obtain ⟨r, σ1, σ2, e1, e2, H3⟩ := s_enforced H2 (xs (i + 1))
  have h := HL.1
  have hg := HL.2.1
  refine x_aload_n h dL_law_1036 rfl 1 rfl (q := 1037) rfl ?_
  refine x_arg HL (n := 1) (by omega) dL_law_1037 dL_law_1038 dL_law_1039 dL_law_1040 dL_law_1041 (by decide) rfl rfl rfl rfl (q := 1042) rfl ?_
  refine x_callVi (As := [.int (xs (i + 1))]) (rest := []) h hg (c_X9_enforced C.2.1 hg.2.1 σ (xs (i + 1)) (r, σ1) e1) ml_L_139 biX9_enforced rfl rfl hdX9_enforced ⟨Nat.le_of_ble_eq_true rfl, Nat.le_of_ble_eq_true rfl⟩ (by decide) (cE_65 g _) rfl rfl rfl (Nat.le_of_ble_eq_true rfl) dL_law_1042 ?_
  refine x_aload_n h dL_law_1045 rfl 2 rfl (q := 1046) rfl ?_
  refine x_arg HL (n := 1) (by omega) dL_law_1046 dL_law_1047 dL_law_1048 dL_law_1049 dL_law_1050 (by decide) rfl rfl rfl rfl (q := 1051) rfl ?_
  refine x_callVi (As := [.int (xs (i + 1))]) (rest := [.int r]) h hg (c_X10_enforced C.2.1 hg.2.1 σ1 (xs (i + 1)) (r, σ2) e2) ml_L_142 biX10_enforced rfl rfl hdX10_enforced ⟨Nat.le_of_ble_eq_true rfl, Nat.le_of_ble_eq_true rfl⟩ (by decide) (cE_87 g _) rfl rfl rfl (Nat.le_of_ble_eq_true rfl) dL_law_1051 ?_
  refine x_icmp_eq (a := ()) (b := ()) (o := ()) h dL_law_1054 (tgt := 1208) (by decide) (q := 1057) rfl (ite_self _) (fun _ _ => k _ H3) (fun hc _ => absurd (show r = r from rfl) hc)
set_option maxHeartbeats 4000000 in
set_option maxRecDepth 100000 in
theorem lw_c29 (HL : lwH C g b L xs) (H2 : INV a σ) (hi : i + 5 ≤ L) (k : ∀ τ, INV a τ → Xs C (wW g) Q τ 1208 (lwV g b i) []) : Xs C (wW g) Q σ 1059 (lwV g b i) [] := by
  obtain ⟨r, e1, e2⟩ := s_play H2 (xs (i + 1)) (xs (i + 2)) (xs (i + 3)) (xs (i + 4))
  have H3 := H2
  have h := HL.1
  have hg := HL.2.1
  refine x_aload_n h dL_law_1059 rfl 1 rfl (q := 1060) rfl ?_
  refine x_arg HL (n := 1) (by omega) dL_law_1060 dL_law_1061 dL_law_1062 dL_law_1063 dL_law_1064 (by decide) rfl rfl rfl rfl (q := 1065) rfl ?_
  refine x_arg HL (n := 2) (by omega) dL_law_1065 dL_law_1066 dL_law_1067 dL_law_1068 dL_law_1069 (by decide) rfl rfl rfl rfl (q := 1070) rfl ?_
  refine x_arg HL (n := 3) (by omega) dL_law_1070 dL_law_1071 dL_law_1072 dL_law_1073 dL_law_1074 (by decide) rfl rfl rfl rfl (q := 1075) rfl ?_
  refine x_arg HL (n := 4) (by omega) dL_law_1075 dL_law_1076 dL_law_1077 dL_law_1078 dL_law_1079 (by decide) rfl rfl rfl rfl (q := 1080) rfl ?_
  refine x_callVi (As := [.int (xs (i + 1)), .int (xs (i + 2)), .int (xs (i + 3)), .int (xs (i + 4))]) (rest := []) h hg (c_X9_play C.2.1 hg.2.1 σ (xs (i + 1)) (xs (i + 2)) (xs (i + 3)) (xs (i + 4)) r e1) ml_L_143 biX9_play rfl rfl hdX9_play ⟨Nat.le_of_ble_eq_true rfl, Nat.le_of_ble_eq_true rfl⟩ (by decide) (cE_65 g _) rfl rfl rfl (Nat.le_of_ble_eq_true rfl) dL_law_1080 ?_
  refine x_aload_n h dL_law_1083 rfl 2 rfl (q := 1084) rfl ?_
  refine x_arg HL (n := 1) (by omega) dL_law_1084 dL_law_1085 dL_law_1086 dL_law_1087 dL_law_1088 (by decide) rfl rfl rfl rfl (q := 1089) rfl ?_
  refine x_arg HL (n := 2) (by omega) dL_law_1089 dL_law_1090 dL_law_1091 dL_law_1092 dL_law_1093 (by decide) rfl rfl rfl rfl (q := 1094) rfl ?_
  refine x_arg HL (n := 3) (by omega) dL_law_1094 dL_law_1095 dL_law_1096 dL_law_1097 dL_law_1098 (by decide) rfl rfl rfl rfl (q := 1099) rfl ?_
  refine x_arg HL (n := 4) (by omega) dL_law_1099 dL_law_1100 dL_law_1101 dL_law_1102 dL_law_1103 (by decide) rfl rfl rfl rfl (q := 1104) rfl ?_
  refine x_callVi (As := [.int (xs (i + 1)), .int (xs (i + 2)), .int (xs (i + 3)), .int (xs (i + 4))]) (rest := [.int r]) h hg (c_X10_play C.2.1 hg.2.1 σ (xs (i + 1)) (xs (i + 2)) (xs (i + 3)) (xs (i + 4)) r e2) ml_L_146 biX10_play rfl rfl hdX10_play ⟨Nat.le_of_ble_eq_true rfl, Nat.le_of_ble_eq_true rfl⟩ (by decide) (cE_87 g _) rfl rfl rfl (Nat.le_of_ble_eq_true rfl) dL_law_1104 ?_
  refine x_icmp_eq (a := ()) (b := ()) (o := ()) h dL_law_1107 (tgt := 1208) (by decide) (q := 1110) rfl (ite_self _) (fun _ _ => k _ H3) (fun hc _ => absurd (show r = r from rfl) hc)
set_option maxHeartbeats 4000000 in
set_option maxRecDepth 100000 in
theorem lw_c30 (HL : lwH C g b L xs) (H2 : INV a σ) (hi : i + 5 ≤ L) (k : ∀ τ, INV a τ → Xs C (wW g) Q τ 1208 (lwV g b i) []) : Xs C (wW g) Q σ 1112 (lwV g b i) [] := by
  obtain ⟨r, σ1, σ2, e1, e2, H3⟩ := s_smallest H2 (xs (i + 1)) (xs (i + 2))
  have h := HL.1
  have hg := HL.2.1
  refine x_aload_n h dL_law_1112 rfl 1 rfl (q := 1113) rfl ?_
  refine x_arg HL (n := 1) (by omega) dL_law_1113 dL_law_1114 dL_law_1115 dL_law_1116 dL_law_1117 (by decide) rfl rfl rfl rfl (q := 1118) rfl ?_
  refine x_arg HL (n := 2) (by omega) dL_law_1118 dL_law_1119 dL_law_1120 dL_law_1121 dL_law_1122 (by decide) rfl rfl rfl rfl (q := 1123) rfl ?_
  refine x_callVi (As := [.int (xs (i + 1)), .int (xs (i + 2))]) (rest := []) h hg (c_X9_smallest C.2.1 hg.2.1 σ (xs (i + 1)) (xs (i + 2)) (r, σ1) e1) ml_L_147 biX9_smallest rfl rfl hdX9_smallest ⟨Nat.le_of_ble_eq_true rfl, Nat.le_of_ble_eq_true rfl⟩ (by decide) (cE_65 g _) rfl rfl rfl (Nat.le_of_ble_eq_true rfl) dL_law_1123 ?_
  refine x_aload_n h dL_law_1126 rfl 2 rfl (q := 1127) rfl ?_
  refine x_arg HL (n := 1) (by omega) dL_law_1127 dL_law_1128 dL_law_1129 dL_law_1130 dL_law_1131 (by decide) rfl rfl rfl rfl (q := 1132) rfl ?_
  refine x_arg HL (n := 2) (by omega) dL_law_1132 dL_law_1133 dL_law_1134 dL_law_1135 dL_law_1136 (by decide) rfl rfl rfl rfl (q := 1137) rfl ?_
  refine x_callVi (As := [.int (xs (i + 1)), .int (xs (i + 2))]) (rest := [.int r]) h hg (c_X10_smallest C.2.1 hg.2.1 σ1 (xs (i + 1)) (xs (i + 2)) (r, σ2) e2) ml_L_150 biX10_smallest rfl rfl hdX10_smallest ⟨Nat.le_of_ble_eq_true rfl, Nat.le_of_ble_eq_true rfl⟩ (by decide) (cE_87 g _) rfl rfl rfl (Nat.le_of_ble_eq_true rfl) dL_law_1137 ?_
  refine x_icmp_eq (a := ()) (b := ()) (o := ()) h dL_law_1140 (tgt := 1208) (by decide) (q := 1143) rfl (ite_self _) (fun _ _ => k _ H3) (fun hc _ => absurd (show r = r from rfl) hc)
set_option maxHeartbeats 4000000 in
set_option maxRecDepth 100000 in
theorem lw_c31 (HL : lwH C g b L xs) (H2 : INV a σ) (hi : i + 5 ≤ L) (k : ∀ τ, INV a τ → Xs C (wW g) Q τ 1208 (lwV g b i) []) : Xs C (wW g) Q σ 1145 (lwV g b i) [] := by
  obtain ⟨r, σ1, σ2, e1, e2, H3⟩ := s_classes H2
  have h := HL.1
  have hg := HL.2.1
  refine x_aload_n h dL_law_1145 rfl 1 rfl (q := 1146) rfl ?_
  refine x_callVi (As := []) (rest := []) h hg (c_X9_classes C.2.1 hg.2.1 σ (r, σ1) e1) ml_L_151 biX9_classes rfl rfl hdX9_classes ⟨Nat.le_of_ble_eq_true rfl, Nat.le_of_ble_eq_true rfl⟩ (by decide) (cE_65 g _) rfl rfl rfl (Nat.le_of_ble_eq_true rfl) dL_law_1146 ?_
  refine x_aload_n h dL_law_1149 rfl 2 rfl (q := 1150) rfl ?_
  refine x_callVi (As := []) (rest := [.int r]) h hg (c_X10_classes C.2.1 hg.2.1 σ1 (r, σ2) e2) ml_L_154 biX10_classes rfl rfl hdX10_classes ⟨Nat.le_of_ble_eq_true rfl, Nat.le_of_ble_eq_true rfl⟩ (by decide) (cE_87 g _) rfl rfl rfl (Nat.le_of_ble_eq_true rfl) dL_law_1150 ?_
  refine x_icmp_eq (a := ()) (b := ()) (o := ()) h dL_law_1153 (tgt := 1208) (by decide) (q := 1156) rfl (ite_self _) (fun _ _ => k _ H3) (fun hc _ => absurd (show r = r from rfl) hc)
set_option maxHeartbeats 4000000 in
set_option maxRecDepth 100000 in
theorem lw_c32 (HL : lwH C g b L xs) (H2 : INV a σ) (hi : i + 5 ≤ L) (k : ∀ τ, INV a τ → Xs C (wW g) Q τ 1208 (lwV g b i) []) : Xs C (wW g) Q σ 1158 (lwV g b i) [] := by
  obtain ⟨r, σ1, σ2, e1, e2, H3⟩ := s_classOf H2 (xs (i + 1))
  have h := HL.1
  have hg := HL.2.1
  refine x_aload_n h dL_law_1158 rfl 1 rfl (q := 1159) rfl ?_
  refine x_arg HL (n := 1) (by omega) dL_law_1159 dL_law_1160 dL_law_1161 dL_law_1162 dL_law_1163 (by decide) rfl rfl rfl rfl (q := 1164) rfl ?_
  refine x_callVi (As := [.int (xs (i + 1))]) (rest := []) h hg (c_X9_classOf C.2.1 hg.2.1 σ (xs (i + 1)) (r, σ1) e1) ml_L_155 biX9_classOf rfl rfl hdX9_classOf ⟨Nat.le_of_ble_eq_true rfl, Nat.le_of_ble_eq_true rfl⟩ (by decide) (cE_65 g _) rfl rfl rfl (Nat.le_of_ble_eq_true rfl) dL_law_1164 ?_
  refine x_aload_n h dL_law_1167 rfl 2 rfl (q := 1168) rfl ?_
  refine x_arg HL (n := 1) (by omega) dL_law_1168 dL_law_1169 dL_law_1170 dL_law_1171 dL_law_1172 (by decide) rfl rfl rfl rfl (q := 1173) rfl ?_
  refine x_callVi (As := [.int (xs (i + 1))]) (rest := [.int r]) h hg (c_X10_classOf C.2.1 hg.2.1 σ1 (xs (i + 1)) (r, σ2) e2) ml_L_158 biX10_classOf rfl rfl hdX10_classOf ⟨Nat.le_of_ble_eq_true rfl, Nat.le_of_ble_eq_true rfl⟩ (by decide) (cE_87 g _) rfl rfl rfl (Nat.le_of_ble_eq_true rfl) dL_law_1173 ?_
  refine x_icmp_eq (a := ()) (b := ()) (o := ()) h dL_law_1176 (tgt := 1208) (by decide) (q := 1179) rfl (ite_self _) (fun _ _ => k _ H3) (fun hc _ => absurd (show r = r from rfl) hc)
set_option maxHeartbeats 4000000 in
set_option maxRecDepth 100000 in
theorem lw_c33 (HL : lwH C g b L xs) (H2 : INV a σ) (hi : i + 5 ≤ L) (k : ∀ τ, INV a τ → Xs C (wW g) Q τ 1208 (lwV g b i) []) : Xs C (wW g) Q σ 1181 (lwV g b i) [] := by
  obtain ⟨r, σ1, σ2, e1, e2, H3⟩ := s_undo H2
  have h := HL.1
  have hg := HL.2.1
  refine x_aload_n h dL_law_1181 rfl 1 rfl (q := 1182) rfl ?_
  refine x_callVi (As := []) (rest := []) h hg (c_X9_undo C.2.1 hg.2.1 σ (r, σ1) e1) ml_L_159 biX9_undo rfl rfl hdX9_undo ⟨Nat.le_of_ble_eq_true rfl, Nat.le_of_ble_eq_true rfl⟩ (by decide) (cE_65 g _) rfl rfl rfl (Nat.le_of_ble_eq_true rfl) dL_law_1182 ?_
  refine x_aload_n h dL_law_1185 rfl 2 rfl (q := 1186) rfl ?_
  refine x_callVi (As := []) (rest := [.int r]) h hg (c_X10_undo C.2.1 hg.2.1 σ1 (r, σ2) e2) ml_L_162 biX10_undo rfl rfl hdX10_undo ⟨Nat.le_of_ble_eq_true rfl, Nat.le_of_ble_eq_true rfl⟩ (by decide) (cE_87 g _) rfl rfl rfl (Nat.le_of_ble_eq_true rfl) dL_law_1186 ?_
  refine x_icmp_eq (a := ()) (b := ()) (o := ()) h dL_law_1189 (tgt := 1208) (by decide) (q := 1192) rfl (ite_self _) (fun _ _ => k _ H3) (fun hc _ => absurd (show r = r from rfl) hc)
set_option maxHeartbeats 4000000 in
set_option maxRecDepth 100000 in
theorem lw_c34 (HL : lwH C g b L xs) (H2 : INV a σ) (hi : i + 5 ≤ L) (k : ∀ τ, INV a τ → Xs C (wW g) Q τ 1208 (lwV g b i) []) : Xs C (wW g) Q σ 1194 (lwV g b i) [] := by
  obtain ⟨r, e1, e2⟩ := s_fingerprint H2
  have H3 := H2
  have h := HL.1
  have hg := HL.2.1
  refine x_aload_n h dL_law_1194 rfl 1 rfl (q := 1195) rfl ?_
  refine x_callVl (As := []) (rest := []) h hg (c_X9_fingerprint C.2.1 hg.2.1 σ r e1) ml_L_163 biX9_fingerprint rfl rfl hdX9_fingerprint ⟨Nat.le_of_ble_eq_true rfl, Nat.le_of_ble_eq_true rfl⟩ (by decide) (cE_65 g _) rfl rfl rfl (Nat.le_of_ble_eq_true rfl) dL_law_1195 ?_
  refine x_aload_n h dL_law_1198 rfl 2 rfl (q := 1199) rfl ?_
  refine x_callVl (As := []) (rest := [.long r]) h hg (c_X10_fingerprint C.2.1 hg.2.1 σ r e2) ml_L_167 biX10_fingerprint rfl rfl hdX10_fingerprint ⟨Nat.le_of_ble_eq_true rfl, Nat.le_of_ble_eq_true rfl⟩ (by decide) (cE_87 g _) rfl rfl rfl (Nat.le_of_ble_eq_true rfl) dL_law_1199 ?_
  refine x_lcmp h dL_law_1202 (q := 1203) rfl ?_
  refine x_if_eq (a := ()) (b := ()) (o := ()) h dL_law_1203 (tgt := 1208) (by decide) (q := 1206) rfl (ite_self _) (fun _ _ => k _ H3) (fun hc _ => absurd (lg_cmp_self _) hc)
end LW
