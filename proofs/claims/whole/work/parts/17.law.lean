theorem ic_6 : Int32.ofInt 6 = 6 := by decide
abbrev mL_law : am_M := (RL, cL_law, 4, some .boolean)
def ls_type (Inv : St → Prop) : Prop := ∀ (σ : St) (a1 : Int32), Inv σ → ∃ z1 z2, fX10_type a1 σ = some z1 ∧ fX11_type a1 z1.2 = some z2 ∧ z1.1 = z2.1 ∧ Inv z2.2
theorem lawc_type {G : ag_G} {Inv : St → Prop} {Q : Option Value → St → Prop} (hstep : ls_type Inv) (l3 : Int32) (σ : St) (hinv : Inv σ) (hb1 : inb (l3 + 1) G.2.2.2.1 = true) (hback : ∀ σ2, Inv σ2 → AX G mL_law 10 237 1335 [(0, .ref (G.2.2.1 1002)), (1, .ref (G.2.2.1 0)), (2, .ref (G.2.2.1 44)), (3, .int l3)] [] σ2 Q) : AX G mL_law 10 237 208 [(0, .ref (G.2.2.1 1002)), (1, .ref (G.2.2.1 0)), (2, .ref (G.2.2.1 44)), (3, .int l3)] [] σ Q := by
  obtain ⟨z1, z2, e1, e2, ev, hi2⟩ := hstep σ (G.2.2.2.2 (l3 + 1).toNatClampNeg) hinv
  refine AX.aload_n dL_law_208 1 rfl rfl ?_
  refine AX.aload_n dL_law_209 0 rfl rfl ?_
  refine AX.iload_n dL_law_210 3 rfl rfl ?_
  refine AX.iconst dL_law_211 ic_1 ?_
  refine AX.iadd dL_law_212 ?_
  refine AX.ialdX dL_law_213 hb1 ?_
  refine AX.callVw (r := 0) (As := [.int (G.2.2.2.2 (l3 + 1).toNatClampNeg)]) (rest := []) (w := some (.int z1.1)) (st' := [.int z1.1]) dL_law_214 mlRL_13 ylX10_type yvX10_type rfl rfl rfl (Nat.le_of_ble_eq_true rfl) ⟨Nat.le_of_ble_eq_true rfl, Nat.le_of_ble_eq_true rfl⟩ (xX10_type (G.2.2.2.2 (l3 + 1).toNatClampNeg) σ e1) rfl ?_
  refine AX.aload_n dL_law_217 2 rfl rfl ?_
  refine AX.aload_n dL_law_218 0 rfl rfl ?_
  refine AX.iload_n dL_law_219 3 rfl rfl ?_
  refine AX.iconst dL_law_220 ic_1 ?_
  refine AX.iadd dL_law_221 ?_
  refine AX.ialdX dL_law_222 hb1 ?_
  refine AX.callVw (r := 44) (As := [.int (G.2.2.2.2 (l3 + 1).toNatClampNeg)]) (rest := [.int z1.1]) (w := some (.int z2.1)) (st' := [.int z2.1, .int z1.1]) dL_law_223 mlRL_17 ylX11_type yvX11_type rfl rfl rfl (Nat.le_of_ble_eq_true rfl) ⟨Nat.le_of_ble_eq_true rfl, Nat.le_of_ble_eq_true rfl⟩ (xX11_type (G.2.2.2.2 (l3 + 1).toNatClampNeg) z1.2 e2) rfl ?_
  exact AX.icmp_eq (tgt := 1335) dL_law_226 rfl (fun _ => hback _ hi2) (fun c9 => absurd ev c9)
def ls_wipe (Inv : St → Prop) : Prop := ∀ (σ : St), Inv σ → ∃ z1 z2, fX10_wipe σ = some z1 ∧ fX11_wipe z1.2 = some z2 ∧ z1.1 = z2.1 ∧ Inv z2.2
theorem lawc_wipe {G : ag_G} {Inv : St → Prop} {Q : Option Value → St → Prop} (hstep : ls_wipe Inv) (l3 : Int32) (σ : St) (hinv : Inv σ)  (hback : ∀ σ2, Inv σ2 → AX G mL_law 10 237 1335 [(0, .ref (G.2.2.1 1002)), (1, .ref (G.2.2.1 0)), (2, .ref (G.2.2.1 44)), (3, .int l3)] [] σ2 Q) : AX G mL_law 10 237 231 [(0, .ref (G.2.2.1 1002)), (1, .ref (G.2.2.1 0)), (2, .ref (G.2.2.1 44)), (3, .int l3)] [] σ Q := by
  obtain ⟨z1, z2, e1, e2, ev, hi2⟩ := hstep σ hinv
  refine AX.aload_n dL_law_231 1 rfl rfl ?_
  refine AX.callVw (r := 0) (As := []) (rest := []) (w := some (.int z1.1)) (st' := [.int z1.1]) dL_law_232 mlRL_18 ylX10_wipe yvX10_wipe rfl rfl rfl (Nat.le_of_ble_eq_true rfl) ⟨Nat.le_of_ble_eq_true rfl, Nat.le_of_ble_eq_true rfl⟩ (xX10_wipe  σ e1) rfl ?_
  refine AX.aload_n dL_law_235 2 rfl rfl ?_
  refine AX.callVw (r := 44) (As := []) (rest := [.int z1.1]) (w := some (.int z2.1)) (st' := [.int z2.1, .int z1.1]) dL_law_236 mlRL_22 ylX11_wipe yvX11_wipe rfl rfl rfl (Nat.le_of_ble_eq_true rfl) ⟨Nat.le_of_ble_eq_true rfl, Nat.le_of_ble_eq_true rfl⟩ (xX11_wipe  z1.2 e2) rfl ?_
  exact AX.icmp_eq (tgt := 1335) dL_law_239 rfl (fun _ => hback _ hi2) (fun c9 => absurd ev c9)
def ls_undo (Inv : St → Prop) : Prop := ∀ (σ : St), Inv σ → ∃ z1 z2, fX10_undo σ = some z1 ∧ fX11_undo z1.2 = some z2 ∧ z1.1 = z2.1 ∧ Inv z2.2
theorem lawc_undo {G : ag_G} {Inv : St → Prop} {Q : Option Value → St → Prop} (hstep : ls_undo Inv) (l3 : Int32) (σ : St) (hinv : Inv σ)  (hback : ∀ σ2, Inv σ2 → AX G mL_law 10 237 1335 [(0, .ref (G.2.2.1 1002)), (1, .ref (G.2.2.1 0)), (2, .ref (G.2.2.1 44)), (3, .int l3)] [] σ2 Q) : AX G mL_law 10 237 244 [(0, .ref (G.2.2.1 1002)), (1, .ref (G.2.2.1 0)), (2, .ref (G.2.2.1 44)), (3, .int l3)] [] σ Q := by
  obtain ⟨z1, z2, e1, e2, ev, hi2⟩ := hstep σ hinv
  refine AX.aload_n dL_law_244 1 rfl rfl ?_
  refine AX.callVw (r := 0) (As := []) (rest := []) (w := some (.int z1.1)) (st' := [.int z1.1]) dL_law_245 mlRL_23 ylX10_undo yvX10_undo rfl rfl rfl (Nat.le_of_ble_eq_true rfl) ⟨Nat.le_of_ble_eq_true rfl, Nat.le_of_ble_eq_true rfl⟩ (xX10_undo  σ e1) rfl ?_
  refine AX.aload_n dL_law_248 2 rfl rfl ?_
  refine AX.callVw (r := 44) (As := []) (rest := [.int z1.1]) (w := some (.int z2.1)) (st' := [.int z2.1, .int z1.1]) dL_law_249 mlRL_26 ylX11_undo yvX11_undo rfl rfl rfl (Nat.le_of_ble_eq_true rfl) ⟨Nat.le_of_ble_eq_true rfl, Nat.le_of_ble_eq_true rfl⟩ (xX11_undo  z1.2 e2) rfl ?_
  exact AX.icmp_eq (tgt := 1335) dL_law_252 rfl (fun _ => hback _ hi2) (fun c9 => absurd ev c9)
def ls_fault (Inv : St → Prop) : Prop := ∀ (σ : St), Inv σ → ∃ z1 z2, fX10_fault σ = some z1 ∧ fX11_fault σ = some z2 ∧ z1 = z2.1 ∧ Inv z2.2
theorem lawc_fault {G : ag_G} {Inv : St → Prop} {Q : Option Value → St → Prop} (hstep : ls_fault Inv) (l3 : Int32) (σ : St) (hinv : Inv σ)  (hback : ∀ σ2, Inv σ2 → AX G mL_law 10 237 1335 [(0, .ref (G.2.2.1 1002)), (1, .ref (G.2.2.1 0)), (2, .ref (G.2.2.1 44)), (3, .int l3)] [] σ2 Q) : AX G mL_law 10 237 257 [(0, .ref (G.2.2.1 1002)), (1, .ref (G.2.2.1 0)), (2, .ref (G.2.2.1 44)), (3, .int l3)] [] σ Q := by
  obtain ⟨z1, z2, e1, e2, ev, hi2⟩ := hstep σ hinv
  refine AX.aload_n dL_law_257 1 rfl rfl ?_
  refine AX.callVw (r := 0) (As := []) (rest := []) (w := some (.int z1)) (st' := [.int z1]) dL_law_258 mlRL_27 ylX10_fault yvX10_fault rfl rfl rfl (Nat.le_of_ble_eq_true rfl) ⟨Nat.le_of_ble_eq_true rfl, Nat.le_of_ble_eq_true rfl⟩ (xX10_fault  σ e1) rfl ?_
  refine AX.aload_n dL_law_261 2 rfl rfl ?_
  refine AX.callVw (r := 44) (As := []) (rest := [.int z1]) (w := some (.int z2.1)) (st' := [.int z2.1, .int z1]) dL_law_262 mlRL_30 ylX11_fault yvX11_fault rfl rfl rfl (Nat.le_of_ble_eq_true rfl) ⟨Nat.le_of_ble_eq_true rfl, Nat.le_of_ble_eq_true rfl⟩ (xX11_fault  σ e2) rfl ?_
  exact AX.icmp_eq (tgt := 1335) dL_law_265 rfl (fun _ => hback _ hi2) (fun c9 => absurd ev c9)
def ls_bar (Inv : St → Prop) : Prop := ∀ (σ : St) (a1 a2 : Int32), Inv σ → ∃ z1 z2, fX10_bar a1 a2 σ = some z1 ∧ fX11_bar a1 a2 σ = some z2 ∧ z1 = z2.1 ∧ Inv z2.2
theorem lawc_bar {G : ag_G} {Inv : St → Prop} {Q : Option Value → St → Prop} (hstep : ls_bar Inv) (l3 : Int32) (σ : St) (hinv : Inv σ) (hb1 : inb (l3 + 1) G.2.2.2.1 = true) (hb2 : inb (l3 + 2) G.2.2.2.1 = true) (hback : ∀ σ2, Inv σ2 → AX G mL_law 10 237 1335 [(0, .ref (G.2.2.1 1002)), (1, .ref (G.2.2.1 0)), (2, .ref (G.2.2.1 44)), (3, .int l3)] [] σ2 Q) : AX G mL_law 10 237 270 [(0, .ref (G.2.2.1 1002)), (1, .ref (G.2.2.1 0)), (2, .ref (G.2.2.1 44)), (3, .int l3)] [] σ Q := by
  obtain ⟨z1, z2, e1, e2, ev, hi2⟩ := hstep σ (G.2.2.2.2 (l3 + 1).toNatClampNeg) (G.2.2.2.2 (l3 + 2).toNatClampNeg) hinv
  refine AX.aload_n dL_law_270 1 rfl rfl ?_
  refine AX.aload_n dL_law_271 0 rfl rfl ?_
  refine AX.iload_n dL_law_272 3 rfl rfl ?_
  refine AX.iconst dL_law_273 ic_1 ?_
  refine AX.iadd dL_law_274 ?_
  refine AX.ialdX dL_law_275 hb1 ?_
  refine AX.aload_n dL_law_276 0 rfl rfl ?_
  refine AX.iload_n dL_law_277 3 rfl rfl ?_
  refine AX.iconst dL_law_278 ic_2 ?_
  refine AX.iadd dL_law_279 ?_
  refine AX.ialdX dL_law_280 hb2 ?_
  refine AX.callVw (r := 0) (As := [.int (G.2.2.2.2 (l3 + 1).toNatClampNeg), .int (G.2.2.2.2 (l3 + 2).toNatClampNeg)]) (rest := []) (w := some (.int z1)) (st' := [.int z1]) dL_law_281 mlRL_31 ylX10_bar yvX10_bar rfl rfl rfl (Nat.le_of_ble_eq_true rfl) ⟨Nat.le_of_ble_eq_true rfl, Nat.le_of_ble_eq_true rfl⟩ (xX10_bar (G.2.2.2.2 (l3 + 1).toNatClampNeg) (G.2.2.2.2 (l3 + 2).toNatClampNeg) σ e1) rfl ?_
  refine AX.aload_n dL_law_284 2 rfl rfl ?_
  refine AX.aload_n dL_law_285 0 rfl rfl ?_
  refine AX.iload_n dL_law_286 3 rfl rfl ?_
  refine AX.iconst dL_law_287 ic_1 ?_
  refine AX.iadd dL_law_288 ?_
  refine AX.ialdX dL_law_289 hb1 ?_
  refine AX.aload_n dL_law_290 0 rfl rfl ?_
  refine AX.iload_n dL_law_291 3 rfl rfl ?_
  refine AX.iconst dL_law_292 ic_2 ?_
  refine AX.iadd dL_law_293 ?_
  refine AX.ialdX dL_law_294 hb2 ?_
  refine AX.callVw (r := 44) (As := [.int (G.2.2.2.2 (l3 + 1).toNatClampNeg), .int (G.2.2.2.2 (l3 + 2).toNatClampNeg)]) (rest := [.int z1]) (w := some (.int z2.1)) (st' := [.int z2.1, .int z1]) dL_law_295 mlRL_35 ylX11_bar yvX11_bar rfl rfl rfl (Nat.le_of_ble_eq_true rfl) ⟨Nat.le_of_ble_eq_true rfl, Nat.le_of_ble_eq_true rfl⟩ (xX11_bar (G.2.2.2.2 (l3 + 1).toNatClampNeg) (G.2.2.2.2 (l3 + 2).toNatClampNeg) σ e2) rfl ?_
  exact AX.icmp_eq (tgt := 1335) dL_law_298 rfl (fun _ => hback _ hi2) (fun c9 => absurd ev c9)
def ls_odds (Inv : St → Prop) : Prop := ∀ (σ : St) (a1 a2 a3 : Int32), Inv σ → ∃ z1 z2, fX10_odds a1 a2 a3 σ = some z1 ∧ fX11_odds a1 a2 a3 z1.2 = some z2 ∧ z1.1 = z2.1 ∧ Inv z2.2
theorem lawc_odds {G : ag_G} {Inv : St → Prop} {Q : Option Value → St → Prop} (hstep : ls_odds Inv) (l3 : Int32) (σ : St) (hinv : Inv σ) (hb1 : inb (l3 + 1) G.2.2.2.1 = true) (hb2 : inb (l3 + 2) G.2.2.2.1 = true) (hb3 : inb (l3 + 3) G.2.2.2.1 = true) (hback : ∀ σ2, Inv σ2 → AX G mL_law 10 237 1335 [(0, .ref (G.2.2.1 1002)), (1, .ref (G.2.2.1 0)), (2, .ref (G.2.2.1 44)), (3, .int l3)] [] σ2 Q) : AX G mL_law 10 237 303 [(0, .ref (G.2.2.1 1002)), (1, .ref (G.2.2.1 0)), (2, .ref (G.2.2.1 44)), (3, .int l3)] [] σ Q := by
  obtain ⟨z1, z2, e1, e2, ev, hi2⟩ := hstep σ (G.2.2.2.2 (l3 + 1).toNatClampNeg) (G.2.2.2.2 (l3 + 2).toNatClampNeg) (G.2.2.2.2 (l3 + 3).toNatClampNeg) hinv
  refine AX.aload_n dL_law_303 1 rfl rfl ?_
  refine AX.aload_n dL_law_304 0 rfl rfl ?_
  refine AX.iload_n dL_law_305 3 rfl rfl ?_
  refine AX.iconst dL_law_306 ic_1 ?_
  refine AX.iadd dL_law_307 ?_
  refine AX.ialdX dL_law_308 hb1 ?_
  refine AX.aload_n dL_law_309 0 rfl rfl ?_
  refine AX.iload_n dL_law_310 3 rfl rfl ?_
  refine AX.iconst dL_law_311 ic_2 ?_
  refine AX.iadd dL_law_312 ?_
  refine AX.ialdX dL_law_313 hb2 ?_
  refine AX.aload_n dL_law_314 0 rfl rfl ?_
  refine AX.iload_n dL_law_315 3 rfl rfl ?_
  refine AX.iconst dL_law_316 ic_3 ?_
  refine AX.iadd dL_law_317 ?_
  refine AX.ialdX dL_law_318 hb3 ?_
  refine AX.callVw (r := 0) (As := [.int (G.2.2.2.2 (l3 + 1).toNatClampNeg), .int (G.2.2.2.2 (l3 + 2).toNatClampNeg), .int (G.2.2.2.2 (l3 + 3).toNatClampNeg)]) (rest := []) (w := some (.int z1.1)) (st' := [.int z1.1]) dL_law_319 mlRL_36 ylX10_odds yvX10_odds rfl rfl rfl (Nat.le_of_ble_eq_true rfl) ⟨Nat.le_of_ble_eq_true rfl, Nat.le_of_ble_eq_true rfl⟩ (xX10_odds (G.2.2.2.2 (l3 + 1).toNatClampNeg) (G.2.2.2.2 (l3 + 2).toNatClampNeg) (G.2.2.2.2 (l3 + 3).toNatClampNeg) σ e1) rfl ?_
  refine AX.aload_n dL_law_322 2 rfl rfl ?_
  refine AX.aload_n dL_law_323 0 rfl rfl ?_
  refine AX.iload_n dL_law_324 3 rfl rfl ?_
  refine AX.iconst dL_law_325 ic_1 ?_
  refine AX.iadd dL_law_326 ?_
  refine AX.ialdX dL_law_327 hb1 ?_
  refine AX.aload_n dL_law_328 0 rfl rfl ?_
  refine AX.iload_n dL_law_329 3 rfl rfl ?_
  refine AX.iconst dL_law_330 ic_2 ?_
  refine AX.iadd dL_law_331 ?_
  refine AX.ialdX dL_law_332 hb2 ?_
  refine AX.aload_n dL_law_333 0 rfl rfl ?_
  refine AX.iload_n dL_law_334 3 rfl rfl ?_
  refine AX.iconst dL_law_335 ic_3 ?_
  refine AX.iadd dL_law_336 ?_
  refine AX.ialdX dL_law_337 hb3 ?_
  refine AX.callVw (r := 44) (As := [.int (G.2.2.2.2 (l3 + 1).toNatClampNeg), .int (G.2.2.2.2 (l3 + 2).toNatClampNeg), .int (G.2.2.2.2 (l3 + 3).toNatClampNeg)]) (rest := [.int z1.1]) (w := some (.int z2.1)) (st' := [.int z2.1, .int z1.1]) dL_law_338 mlRL_40 ylX11_odds yvX11_odds rfl rfl rfl (Nat.le_of_ble_eq_true rfl) ⟨Nat.le_of_ble_eq_true rfl, Nat.le_of_ble_eq_true rfl⟩ (xX11_odds (G.2.2.2.2 (l3 + 1).toNatClampNeg) (G.2.2.2.2 (l3 + 2).toNatClampNeg) (G.2.2.2.2 (l3 + 3).toNatClampNeg) z1.2 e2) rfl ?_
  exact AX.icmp_eq (tgt := 1335) dL_law_341 rfl (fun _ => hback _ hi2) (fun c9 => absurd ev c9)
def ls_set (Inv : St → Prop) : Prop := ∀ (σ : St) (a1 a2 : Int32), Inv σ → ∃ z1 z2, fX10_set a1 a2 σ = some z1 ∧ fX11_set a1 a2 z1.2 = some z2 ∧ z1.1 = z2.1 ∧ Inv z2.2
theorem lawc_set {G : ag_G} {Inv : St → Prop} {Q : Option Value → St → Prop} (hstep : ls_set Inv) (l3 : Int32) (σ : St) (hinv : Inv σ) (hb1 : inb (l3 + 1) G.2.2.2.1 = true) (hb2 : inb (l3 + 2) G.2.2.2.1 = true) (hback : ∀ σ2, Inv σ2 → AX G mL_law 10 237 1335 [(0, .ref (G.2.2.1 1002)), (1, .ref (G.2.2.1 0)), (2, .ref (G.2.2.1 44)), (3, .int l3)] [] σ2 Q) : AX G mL_law 10 237 346 [(0, .ref (G.2.2.1 1002)), (1, .ref (G.2.2.1 0)), (2, .ref (G.2.2.1 44)), (3, .int l3)] [] σ Q := by
  obtain ⟨z1, z2, e1, e2, ev, hi2⟩ := hstep σ (G.2.2.2.2 (l3 + 1).toNatClampNeg) (G.2.2.2.2 (l3 + 2).toNatClampNeg) hinv
  refine AX.aload_n dL_law_346 1 rfl rfl ?_
  refine AX.aload_n dL_law_347 0 rfl rfl ?_
  refine AX.iload_n dL_law_348 3 rfl rfl ?_
  refine AX.iconst dL_law_349 ic_1 ?_
  refine AX.iadd dL_law_350 ?_
  refine AX.ialdX dL_law_351 hb1 ?_
  refine AX.aload_n dL_law_352 0 rfl rfl ?_
  refine AX.iload_n dL_law_353 3 rfl rfl ?_
  refine AX.iconst dL_law_354 ic_2 ?_
  refine AX.iadd dL_law_355 ?_
  refine AX.ialdX dL_law_356 hb2 ?_
  refine AX.callVw (r := 0) (As := [.int (G.2.2.2.2 (l3 + 1).toNatClampNeg), .int (G.2.2.2.2 (l3 + 2).toNatClampNeg)]) (rest := []) (w := some (.int z1.1)) (st' := [.int z1.1]) dL_law_357 mlRL_41 ylX10_set yvX10_set rfl rfl rfl (Nat.le_of_ble_eq_true rfl) ⟨Nat.le_of_ble_eq_true rfl, Nat.le_of_ble_eq_true rfl⟩ (xX10_set (G.2.2.2.2 (l3 + 1).toNatClampNeg) (G.2.2.2.2 (l3 + 2).toNatClampNeg) σ e1) rfl ?_
  refine AX.aload_n dL_law_360 2 rfl rfl ?_
  refine AX.aload_n dL_law_361 0 rfl rfl ?_
  refine AX.iload_n dL_law_362 3 rfl rfl ?_
  refine AX.iconst dL_law_363 ic_1 ?_
  refine AX.iadd dL_law_364 ?_
  refine AX.ialdX dL_law_365 hb1 ?_
  refine AX.aload_n dL_law_366 0 rfl rfl ?_
  refine AX.iload_n dL_law_367 3 rfl rfl ?_
  refine AX.iconst dL_law_368 ic_2 ?_
  refine AX.iadd dL_law_369 ?_
  refine AX.ialdX dL_law_370 hb2 ?_
  refine AX.callVw (r := 44) (As := [.int (G.2.2.2.2 (l3 + 1).toNatClampNeg), .int (G.2.2.2.2 (l3 + 2).toNatClampNeg)]) (rest := [.int z1.1]) (w := some (.int z2.1)) (st' := [.int z2.1, .int z1.1]) dL_law_371 mlRL_44 ylX11_set yvX11_set rfl rfl rfl (Nat.le_of_ble_eq_true rfl) ⟨Nat.le_of_ble_eq_true rfl, Nat.le_of_ble_eq_true rfl⟩ (xX11_set (G.2.2.2.2 (l3 + 1).toNatClampNeg) (G.2.2.2.2 (l3 + 2).toNatClampNeg) z1.2 e2) rfl ?_
  exact AX.icmp_eq (tgt := 1335) dL_law_374 rfl (fun _ => hback _ hi2) (fun c9 => absurd ev c9)
def ls_read (Inv : St → Prop) : Prop := ∀ (σ : St) (a1 : Int32), Inv σ → ∃ z1 z2, fX10_read a1 σ = some z1 ∧ fX11_read a1 z1.2 = some z2 ∧ z1.1 = z2.1 ∧ Inv z2.2
theorem lawc_read {G : ag_G} {Inv : St → Prop} {Q : Option Value → St → Prop} (hstep : ls_read Inv) (l3 : Int32) (σ : St) (hinv : Inv σ) (hb1 : inb (l3 + 1) G.2.2.2.1 = true) (hback : ∀ σ2, Inv σ2 → AX G mL_law 10 237 1335 [(0, .ref (G.2.2.1 1002)), (1, .ref (G.2.2.1 0)), (2, .ref (G.2.2.1 44)), (3, .int l3)] [] σ2 Q) : AX G mL_law 10 237 379 [(0, .ref (G.2.2.1 1002)), (1, .ref (G.2.2.1 0)), (2, .ref (G.2.2.1 44)), (3, .int l3)] [] σ Q := by
  obtain ⟨z1, z2, e1, e2, ev, hi2⟩ := hstep σ (G.2.2.2.2 (l3 + 1).toNatClampNeg) hinv
  refine AX.aload_n dL_law_379 1 rfl rfl ?_
  refine AX.aload_n dL_law_380 0 rfl rfl ?_
  refine AX.iload_n dL_law_381 3 rfl rfl ?_
  refine AX.iconst dL_law_382 ic_1 ?_
  refine AX.iadd dL_law_383 ?_
  refine AX.ialdX dL_law_384 hb1 ?_
  refine AX.callVw (r := 0) (As := [.int (G.2.2.2.2 (l3 + 1).toNatClampNeg)]) (rest := []) (w := some (.int z1.1)) (st' := [.int z1.1]) dL_law_385 mlRL_45 ylX10_read yvX10_read rfl rfl rfl (Nat.le_of_ble_eq_true rfl) ⟨Nat.le_of_ble_eq_true rfl, Nat.le_of_ble_eq_true rfl⟩ (xX10_read (G.2.2.2.2 (l3 + 1).toNatClampNeg) σ e1) rfl ?_
  refine AX.aload_n dL_law_388 2 rfl rfl ?_
  refine AX.aload_n dL_law_389 0 rfl rfl ?_
  refine AX.iload_n dL_law_390 3 rfl rfl ?_
  refine AX.iconst dL_law_391 ic_1 ?_
  refine AX.iadd dL_law_392 ?_
  refine AX.ialdX dL_law_393 hb1 ?_
  refine AX.callVw (r := 44) (As := [.int (G.2.2.2.2 (l3 + 1).toNatClampNeg)]) (rest := [.int z1.1]) (w := some (.int z2.1)) (st' := [.int z2.1, .int z1.1]) dL_law_394 mlRL_48 ylX11_read yvX11_read rfl rfl rfl (Nat.le_of_ble_eq_true rfl) ⟨Nat.le_of_ble_eq_true rfl, Nat.le_of_ble_eq_true rfl⟩ (xX11_read (G.2.2.2.2 (l3 + 1).toNatClampNeg) z1.2 e2) rfl ?_
  exact AX.icmp_eq (tgt := 1335) dL_law_397 rfl (fun _ => hback _ hi2) (fun c9 => absurd ev c9)
def ls_hear (Inv : St → Prop) : Prop := ∀ (σ : St) (a1 a2 : Int32), Inv σ → ∃ z1 z2, fX10_hear a1 a2 σ = some z1 ∧ fX11_hear a1 a2 z1.2 = some z2 ∧ z1.1 = z2.1 ∧ Inv z2.2
theorem lawc_hear {G : ag_G} {Inv : St → Prop} {Q : Option Value → St → Prop} (hstep : ls_hear Inv) (l3 : Int32) (σ : St) (hinv : Inv σ) (hb1 : inb (l3 + 1) G.2.2.2.1 = true) (hb2 : inb (l3 + 2) G.2.2.2.1 = true) (hback : ∀ σ2, Inv σ2 → AX G mL_law 10 237 1335 [(0, .ref (G.2.2.1 1002)), (1, .ref (G.2.2.1 0)), (2, .ref (G.2.2.1 44)), (3, .int l3)] [] σ2 Q) : AX G mL_law 10 237 402 [(0, .ref (G.2.2.1 1002)), (1, .ref (G.2.2.1 0)), (2, .ref (G.2.2.1 44)), (3, .int l3)] [] σ Q := by
  obtain ⟨z1, z2, e1, e2, ev, hi2⟩ := hstep σ (G.2.2.2.2 (l3 + 1).toNatClampNeg) (G.2.2.2.2 (l3 + 2).toNatClampNeg) hinv
  refine AX.aload_n dL_law_402 1 rfl rfl ?_
  refine AX.aload_n dL_law_403 0 rfl rfl ?_
  refine AX.iload_n dL_law_404 3 rfl rfl ?_
  refine AX.iconst dL_law_405 ic_1 ?_
  refine AX.iadd dL_law_406 ?_
  refine AX.ialdX dL_law_407 hb1 ?_
  refine AX.aload_n dL_law_408 0 rfl rfl ?_
  refine AX.iload_n dL_law_409 3 rfl rfl ?_
  refine AX.iconst dL_law_410 ic_2 ?_
  refine AX.iadd dL_law_411 ?_
  refine AX.ialdX dL_law_412 hb2 ?_
  refine AX.callVw (r := 0) (As := [.int (G.2.2.2.2 (l3 + 1).toNatClampNeg), .int (G.2.2.2.2 (l3 + 2).toNatClampNeg)]) (rest := []) (w := some (.int z1.1)) (st' := [.int z1.1]) dL_law_413 mlRL_49 ylX10_hear yvX10_hear rfl rfl rfl (Nat.le_of_ble_eq_true rfl) ⟨Nat.le_of_ble_eq_true rfl, Nat.le_of_ble_eq_true rfl⟩ (xX10_hear (G.2.2.2.2 (l3 + 1).toNatClampNeg) (G.2.2.2.2 (l3 + 2).toNatClampNeg) σ e1) rfl ?_
  refine AX.aload_n dL_law_416 2 rfl rfl ?_
  refine AX.aload_n dL_law_417 0 rfl rfl ?_
  refine AX.iload_n dL_law_418 3 rfl rfl ?_
  refine AX.iconst dL_law_419 ic_1 ?_
  refine AX.iadd dL_law_420 ?_
  refine AX.ialdX dL_law_421 hb1 ?_
  refine AX.aload_n dL_law_422 0 rfl rfl ?_
  refine AX.iload_n dL_law_423 3 rfl rfl ?_
  refine AX.iconst dL_law_424 ic_2 ?_
  refine AX.iadd dL_law_425 ?_
  refine AX.ialdX dL_law_426 hb2 ?_
  refine AX.callVw (r := 44) (As := [.int (G.2.2.2.2 (l3 + 1).toNatClampNeg), .int (G.2.2.2.2 (l3 + 2).toNatClampNeg)]) (rest := [.int z1.1]) (w := some (.int z2.1)) (st' := [.int z2.1, .int z1.1]) dL_law_427 mlRL_52 ylX11_hear yvX11_hear rfl rfl rfl (Nat.le_of_ble_eq_true rfl) ⟨Nat.le_of_ble_eq_true rfl, Nat.le_of_ble_eq_true rfl⟩ (xX11_hear (G.2.2.2.2 (l3 + 1).toNatClampNeg) (G.2.2.2.2 (l3 + 2).toNatClampNeg) z1.2 e2) rfl ?_
  exact AX.icmp_eq (tgt := 1335) dL_law_430 rfl (fun _ => hback _ hi2) (fun c9 => absurd ev c9)
def ls_shown (Inv : St → Prop) : Prop := ∀ (σ : St) (a1 a2 : Int32), Inv σ → ∃ z1 z2, fX10_shown a1 a2 σ = some z1 ∧ fX11_shown a1 a2 z1.2 = some z2 ∧ z1.1 = z2.1 ∧ Inv z2.2
theorem lawc_shown {G : ag_G} {Inv : St → Prop} {Q : Option Value → St → Prop} (hstep : ls_shown Inv) (l3 : Int32) (σ : St) (hinv : Inv σ) (hb1 : inb (l3 + 1) G.2.2.2.1 = true) (hb2 : inb (l3 + 2) G.2.2.2.1 = true) (hback : ∀ σ2, Inv σ2 → AX G mL_law 10 237 1335 [(0, .ref (G.2.2.1 1002)), (1, .ref (G.2.2.1 0)), (2, .ref (G.2.2.1 44)), (3, .int l3)] [] σ2 Q) : AX G mL_law 10 237 435 [(0, .ref (G.2.2.1 1002)), (1, .ref (G.2.2.1 0)), (2, .ref (G.2.2.1 44)), (3, .int l3)] [] σ Q := by
  obtain ⟨z1, z2, e1, e2, ev, hi2⟩ := hstep σ (G.2.2.2.2 (l3 + 1).toNatClampNeg) (G.2.2.2.2 (l3 + 2).toNatClampNeg) hinv
  refine AX.aload_n dL_law_435 1 rfl rfl ?_
  refine AX.aload_n dL_law_436 0 rfl rfl ?_
  refine AX.iload_n dL_law_437 3 rfl rfl ?_
  refine AX.iconst dL_law_438 ic_1 ?_
  refine AX.iadd dL_law_439 ?_
  refine AX.ialdX dL_law_440 hb1 ?_
  refine AX.aload_n dL_law_441 0 rfl rfl ?_
  refine AX.iload_n dL_law_442 3 rfl rfl ?_
  refine AX.iconst dL_law_443 ic_2 ?_
  refine AX.iadd dL_law_444 ?_
  refine AX.ialdX dL_law_445 hb2 ?_
  refine AX.callVw (r := 0) (As := [.int (G.2.2.2.2 (l3 + 1).toNatClampNeg), .int (G.2.2.2.2 (l3 + 2).toNatClampNeg)]) (rest := []) (w := some (.int z1.1)) (st' := [.int z1.1]) dL_law_446 mlRL_53 ylX10_shown yvX10_shown rfl rfl rfl (Nat.le_of_ble_eq_true rfl) ⟨Nat.le_of_ble_eq_true rfl, Nat.le_of_ble_eq_true rfl⟩ (xX10_shown (G.2.2.2.2 (l3 + 1).toNatClampNeg) (G.2.2.2.2 (l3 + 2).toNatClampNeg) σ e1) rfl ?_
  refine AX.aload_n dL_law_449 2 rfl rfl ?_
  refine AX.aload_n dL_law_450 0 rfl rfl ?_
  refine AX.iload_n dL_law_451 3 rfl rfl ?_
  refine AX.iconst dL_law_452 ic_1 ?_
  refine AX.iadd dL_law_453 ?_
  refine AX.ialdX dL_law_454 hb1 ?_
  refine AX.aload_n dL_law_455 0 rfl rfl ?_
  refine AX.iload_n dL_law_456 3 rfl rfl ?_
  refine AX.iconst dL_law_457 ic_2 ?_
  refine AX.iadd dL_law_458 ?_
  refine AX.ialdX dL_law_459 hb2 ?_
  refine AX.callVw (r := 44) (As := [.int (G.2.2.2.2 (l3 + 1).toNatClampNeg), .int (G.2.2.2.2 (l3 + 2).toNatClampNeg)]) (rest := [.int z1.1]) (w := some (.int z2.1)) (st' := [.int z2.1, .int z1.1]) dL_law_460 mlRL_56 ylX11_shown yvX11_shown rfl rfl rfl (Nat.le_of_ble_eq_true rfl) ⟨Nat.le_of_ble_eq_true rfl, Nat.le_of_ble_eq_true rfl⟩ (xX11_shown (G.2.2.2.2 (l3 + 1).toNatClampNeg) (G.2.2.2.2 (l3 + 2).toNatClampNeg) z1.2 e2) rfl ?_
  exact AX.icmp_eq (tgt := 1335) dL_law_463 rfl (fun _ => hback _ hi2) (fun c9 => absurd ev c9)
def ls_forget (Inv : St → Prop) : Prop := ∀ (σ : St), Inv σ → ∃ z1 z2, fX10_forget σ = some z1 ∧ fX11_forget z1.2 = some z2 ∧ z1.1 = z2.1 ∧ Inv z2.2
theorem lawc_forget {G : ag_G} {Inv : St → Prop} {Q : Option Value → St → Prop} (hstep : ls_forget Inv) (l3 : Int32) (σ : St) (hinv : Inv σ)  (hback : ∀ σ2, Inv σ2 → AX G mL_law 10 237 1335 [(0, .ref (G.2.2.1 1002)), (1, .ref (G.2.2.1 0)), (2, .ref (G.2.2.1 44)), (3, .int l3)] [] σ2 Q) : AX G mL_law 10 237 468 [(0, .ref (G.2.2.1 1002)), (1, .ref (G.2.2.1 0)), (2, .ref (G.2.2.1 44)), (3, .int l3)] [] σ Q := by
  obtain ⟨z1, z2, e1, e2, ev, hi2⟩ := hstep σ hinv
  refine AX.aload_n dL_law_468 1 rfl rfl ?_
  refine AX.callVw (r := 0) (As := []) (rest := []) (w := some (.int z1.1)) (st' := [.int z1.1]) dL_law_469 mlRL_57 ylX10_forget yvX10_forget rfl rfl rfl (Nat.le_of_ble_eq_true rfl) ⟨Nat.le_of_ble_eq_true rfl, Nat.le_of_ble_eq_true rfl⟩ (xX10_forget  σ e1) rfl ?_
  refine AX.aload_n dL_law_472 2 rfl rfl ?_
  refine AX.callVw (r := 44) (As := []) (rest := [.int z1.1]) (w := some (.int z2.1)) (st' := [.int z2.1, .int z1.1]) dL_law_473 mlRL_60 ylX11_forget yvX11_forget rfl rfl rfl (Nat.le_of_ble_eq_true rfl) ⟨Nat.le_of_ble_eq_true rfl, Nat.le_of_ble_eq_true rfl⟩ (xX11_forget  z1.2 e2) rfl ?_
  exact AX.icmp_eq (tgt := 1335) dL_law_476 rfl (fun _ => hback _ hi2) (fun c9 => absurd ev c9)
def ls_where (Inv : St → Prop) : Prop := ∀ (σ : St) (a1 a2 a3 : Int32), Inv σ → ∃ z1 z2, fX10_where a1 a2 a3 σ = some z1 ∧ fX11_where a1 a2 a3 z1.2 = some z2 ∧ z1.1 = z2.1 ∧ Inv z2.2
theorem lawc_where {G : ag_G} {Inv : St → Prop} {Q : Option Value → St → Prop} (hstep : ls_where Inv) (l3 : Int32) (σ : St) (hinv : Inv σ) (hb1 : inb (l3 + 1) G.2.2.2.1 = true) (hb2 : inb (l3 + 2) G.2.2.2.1 = true) (hb3 : inb (l3 + 3) G.2.2.2.1 = true) (hback : ∀ σ2, Inv σ2 → AX G mL_law 10 237 1335 [(0, .ref (G.2.2.1 1002)), (1, .ref (G.2.2.1 0)), (2, .ref (G.2.2.1 44)), (3, .int l3)] [] σ2 Q) : AX G mL_law 10 237 481 [(0, .ref (G.2.2.1 1002)), (1, .ref (G.2.2.1 0)), (2, .ref (G.2.2.1 44)), (3, .int l3)] [] σ Q := by
  obtain ⟨z1, z2, e1, e2, ev, hi2⟩ := hstep σ (G.2.2.2.2 (l3 + 1).toNatClampNeg) (G.2.2.2.2 (l3 + 2).toNatClampNeg) (G.2.2.2.2 (l3 + 3).toNatClampNeg) hinv
  refine AX.aload_n dL_law_481 1 rfl rfl ?_
  refine AX.aload_n dL_law_482 0 rfl rfl ?_
  refine AX.iload_n dL_law_483 3 rfl rfl ?_
  refine AX.iconst dL_law_484 ic_1 ?_
  refine AX.iadd dL_law_485 ?_
  refine AX.ialdX dL_law_486 hb1 ?_
  refine AX.aload_n dL_law_487 0 rfl rfl ?_
  refine AX.iload_n dL_law_488 3 rfl rfl ?_
  refine AX.iconst dL_law_489 ic_2 ?_
  refine AX.iadd dL_law_490 ?_
  refine AX.ialdX dL_law_491 hb2 ?_
  refine AX.aload_n dL_law_492 0 rfl rfl ?_
  refine AX.iload_n dL_law_493 3 rfl rfl ?_
  refine AX.iconst dL_law_494 ic_3 ?_
  refine AX.iadd dL_law_495 ?_
  refine AX.ialdX dL_law_496 hb3 ?_
  refine AX.callVw (r := 0) (As := [.int (G.2.2.2.2 (l3 + 1).toNatClampNeg), .int (G.2.2.2.2 (l3 + 2).toNatClampNeg), .int (G.2.2.2.2 (l3 + 3).toNatClampNeg)]) (rest := []) (w := some (.long z1.1)) (st' := [.long z1.1]) dL_law_497 mlRL_61 ylX10_where yvX10_where rfl rfl rfl (Nat.le_of_ble_eq_true rfl) ⟨Nat.le_of_ble_eq_true rfl, Nat.le_of_ble_eq_true rfl⟩ (xX10_where (G.2.2.2.2 (l3 + 1).toNatClampNeg) (G.2.2.2.2 (l3 + 2).toNatClampNeg) (G.2.2.2.2 (l3 + 3).toNatClampNeg) σ e1) rfl ?_
  refine AX.aload_n dL_law_500 2 rfl rfl ?_
  refine AX.aload_n dL_law_501 0 rfl rfl ?_
  refine AX.iload_n dL_law_502 3 rfl rfl ?_
  refine AX.iconst dL_law_503 ic_1 ?_
  refine AX.iadd dL_law_504 ?_
  refine AX.ialdX dL_law_505 hb1 ?_
  refine AX.aload_n dL_law_506 0 rfl rfl ?_
  refine AX.iload_n dL_law_507 3 rfl rfl ?_
  refine AX.iconst dL_law_508 ic_2 ?_
  refine AX.iadd dL_law_509 ?_
  refine AX.ialdX dL_law_510 hb2 ?_
  refine AX.aload_n dL_law_511 0 rfl rfl ?_
  refine AX.iload_n dL_law_512 3 rfl rfl ?_
  refine AX.iconst dL_law_513 ic_3 ?_
  refine AX.iadd dL_law_514 ?_
  refine AX.ialdX dL_law_515 hb3 ?_
  refine AX.callVw (r := 44) (As := [.int (G.2.2.2.2 (l3 + 1).toNatClampNeg), .int (G.2.2.2.2 (l3 + 2).toNatClampNeg), .int (G.2.2.2.2 (l3 + 3).toNatClampNeg)]) (rest := [.long z1.1]) (w := some (.long z2.1)) (st' := [.long z2.1, .long z1.1]) dL_law_516 mlRL_65 ylX11_where yvX11_where rfl rfl rfl (Nat.le_of_ble_eq_true rfl) ⟨Nat.le_of_ble_eq_true rfl, Nat.le_of_ble_eq_true rfl⟩ (xX11_where (G.2.2.2.2 (l3 + 1).toNatClampNeg) (G.2.2.2.2 (l3 + 2).toNatClampNeg) (G.2.2.2.2 (l3 + 3).toNatClampNeg) z1.2 e2) rfl ?_
  exact AX.lcmp_eq (tgt := 1335) dL_law_519 dL_law_520 rfl (fun _ => hback _ hi2) (fun c9 => absurd ev c9)
def ls_likeliest (Inv : St → Prop) : Prop := ∀ (σ : St) (a1 : Int32), Inv σ → ∃ z1 z2, fX10_likeliest a1 σ = some z1 ∧ fX11_likeliest a1 z1.2 = some z2 ∧ z1.1 = z2.1 ∧ Inv z2.2
theorem lawc_likeliest {G : ag_G} {Inv : St → Prop} {Q : Option Value → St → Prop} (hstep : ls_likeliest Inv) (l3 : Int32) (σ : St) (hinv : Inv σ) (hb1 : inb (l3 + 1) G.2.2.2.1 = true) (hback : ∀ σ2, Inv σ2 → AX G mL_law 10 237 1335 [(0, .ref (G.2.2.1 1002)), (1, .ref (G.2.2.1 0)), (2, .ref (G.2.2.1 44)), (3, .int l3)] [] σ2 Q) : AX G mL_law 10 237 525 [(0, .ref (G.2.2.1 1002)), (1, .ref (G.2.2.1 0)), (2, .ref (G.2.2.1 44)), (3, .int l3)] [] σ Q := by
  obtain ⟨z1, z2, e1, e2, ev, hi2⟩ := hstep σ (G.2.2.2.2 (l3 + 1).toNatClampNeg) hinv
  refine AX.aload_n dL_law_525 1 rfl rfl ?_
  refine AX.aload_n dL_law_526 0 rfl rfl ?_
  refine AX.iload_n dL_law_527 3 rfl rfl ?_
  refine AX.iconst dL_law_528 ic_1 ?_
  refine AX.iadd dL_law_529 ?_
  refine AX.ialdX dL_law_530 hb1 ?_
  refine AX.callVw (r := 0) (As := [.int (G.2.2.2.2 (l3 + 1).toNatClampNeg)]) (rest := []) (w := some (.int z1.1)) (st' := [.int z1.1]) dL_law_531 mlRL_66 ylX10_likeliest yvX10_likeliest rfl rfl rfl (Nat.le_of_ble_eq_true rfl) ⟨Nat.le_of_ble_eq_true rfl, Nat.le_of_ble_eq_true rfl⟩ (xX10_likeliest (G.2.2.2.2 (l3 + 1).toNatClampNeg) σ e1) rfl ?_
  refine AX.aload_n dL_law_534 2 rfl rfl ?_
  refine AX.aload_n dL_law_535 0 rfl rfl ?_
  refine AX.iload_n dL_law_536 3 rfl rfl ?_
  refine AX.iconst dL_law_537 ic_1 ?_
  refine AX.iadd dL_law_538 ?_
  refine AX.ialdX dL_law_539 hb1 ?_
  refine AX.callVw (r := 44) (As := [.int (G.2.2.2.2 (l3 + 1).toNatClampNeg)]) (rest := [.int z1.1]) (w := some (.int z2.1)) (st' := [.int z2.1, .int z1.1]) dL_law_540 mlRL_69 ylX11_likeliest yvX11_likeliest rfl rfl rfl (Nat.le_of_ble_eq_true rfl) ⟨Nat.le_of_ble_eq_true rfl, Nat.le_of_ble_eq_true rfl⟩ (xX11_likeliest (G.2.2.2.2 (l3 + 1).toNatClampNeg) z1.2 e2) rfl ?_
  exact AX.icmp_eq (tgt := 1335) dL_law_543 rfl (fun _ => hback _ hi2) (fun c9 => absurd ev c9)
def ls_strike (Inv : St → Prop) : Prop := ∀ (σ : St) (a1 a2 : Int32), Inv σ → ∃ z1 z2, fX10_strike a1 a2 σ = some z1 ∧ fX11_strike a1 a2 z1.2 = some z2 ∧ z1.1 = z2.1 ∧ Inv z2.2
theorem lawc_strike {G : ag_G} {Inv : St → Prop} {Q : Option Value → St → Prop} (hstep : ls_strike Inv) (l3 : Int32) (σ : St) (hinv : Inv σ) (hb1 : inb (l3 + 1) G.2.2.2.1 = true) (hb2 : inb (l3 + 2) G.2.2.2.1 = true) (hback : ∀ σ2, Inv σ2 → AX G mL_law 10 237 1335 [(0, .ref (G.2.2.1 1002)), (1, .ref (G.2.2.1 0)), (2, .ref (G.2.2.1 44)), (3, .int l3)] [] σ2 Q) : AX G mL_law 10 237 548 [(0, .ref (G.2.2.1 1002)), (1, .ref (G.2.2.1 0)), (2, .ref (G.2.2.1 44)), (3, .int l3)] [] σ Q := by
  obtain ⟨z1, z2, e1, e2, ev, hi2⟩ := hstep σ (G.2.2.2.2 (l3 + 1).toNatClampNeg) (G.2.2.2.2 (l3 + 2).toNatClampNeg) hinv
  refine AX.aload_n dL_law_548 1 rfl rfl ?_
  refine AX.aload_n dL_law_549 0 rfl rfl ?_
  refine AX.iload_n dL_law_550 3 rfl rfl ?_
  refine AX.iconst dL_law_551 ic_1 ?_
  refine AX.iadd dL_law_552 ?_
  refine AX.ialdX dL_law_553 hb1 ?_
  refine AX.aload_n dL_law_554 0 rfl rfl ?_
  refine AX.iload_n dL_law_555 3 rfl rfl ?_
  refine AX.iconst dL_law_556 ic_2 ?_
  refine AX.iadd dL_law_557 ?_
  refine AX.ialdX dL_law_558 hb2 ?_
  refine AX.callVw (r := 0) (As := [.int (G.2.2.2.2 (l3 + 1).toNatClampNeg), .int (G.2.2.2.2 (l3 + 2).toNatClampNeg)]) (rest := []) (w := some (.long z1.1)) (st' := [.long z1.1]) dL_law_559 mlRL_70 ylX10_strike yvX10_strike rfl rfl rfl (Nat.le_of_ble_eq_true rfl) ⟨Nat.le_of_ble_eq_true rfl, Nat.le_of_ble_eq_true rfl⟩ (xX10_strike (G.2.2.2.2 (l3 + 1).toNatClampNeg) (G.2.2.2.2 (l3 + 2).toNatClampNeg) σ e1) rfl ?_
  refine AX.aload_n dL_law_562 2 rfl rfl ?_
  refine AX.aload_n dL_law_563 0 rfl rfl ?_
  refine AX.iload_n dL_law_564 3 rfl rfl ?_
  refine AX.iconst dL_law_565 ic_1 ?_
  refine AX.iadd dL_law_566 ?_
  refine AX.ialdX dL_law_567 hb1 ?_
  refine AX.aload_n dL_law_568 0 rfl rfl ?_
  refine AX.iload_n dL_law_569 3 rfl rfl ?_
  refine AX.iconst dL_law_570 ic_2 ?_
  refine AX.iadd dL_law_571 ?_
  refine AX.ialdX dL_law_572 hb2 ?_
  refine AX.callVw (r := 44) (As := [.int (G.2.2.2.2 (l3 + 1).toNatClampNeg), .int (G.2.2.2.2 (l3 + 2).toNatClampNeg)]) (rest := [.long z1.1]) (w := some (.long z2.1)) (st' := [.long z2.1, .long z1.1]) dL_law_573 mlRL_74 ylX11_strike yvX11_strike rfl rfl rfl (Nat.le_of_ble_eq_true rfl) ⟨Nat.le_of_ble_eq_true rfl, Nat.le_of_ble_eq_true rfl⟩ (xX11_strike (G.2.2.2.2 (l3 + 1).toNatClampNeg) (G.2.2.2.2 (l3 + 2).toNatClampNeg) z1.2 e2) rfl ?_
  exact AX.lcmp_eq (tgt := 1335) dL_law_576 dL_law_577 rfl (fun _ => hback _ hi2) (fun c9 => absurd ev c9)
def ls_line (Inv : St → Prop) : Prop := ∀ (σ : St), Inv σ → ∃ z1 z2, fX10_line σ = some z1 ∧ fX11_line z1.2 = some z2 ∧ z1.1 = z2.1 ∧ Inv z2.2
theorem lawc_line {G : ag_G} {Inv : St → Prop} {Q : Option Value → St → Prop} (hstep : ls_line Inv) (l3 : Int32) (σ : St) (hinv : Inv σ)  (hback : ∀ σ2, Inv σ2 → AX G mL_law 10 237 1335 [(0, .ref (G.2.2.1 1002)), (1, .ref (G.2.2.1 0)), (2, .ref (G.2.2.1 44)), (3, .int l3)] [] σ2 Q) : AX G mL_law 10 237 582 [(0, .ref (G.2.2.1 1002)), (1, .ref (G.2.2.1 0)), (2, .ref (G.2.2.1 44)), (3, .int l3)] [] σ Q := by
  obtain ⟨z1, z2, e1, e2, ev, hi2⟩ := hstep σ hinv
  refine AX.aload_n dL_law_582 1 rfl rfl ?_
  refine AX.callVw (r := 0) (As := []) (rest := []) (w := some (.int z1.1)) (st' := [.int z1.1]) dL_law_583 mlRL_75 ylX10_line yvX10_line rfl rfl rfl (Nat.le_of_ble_eq_true rfl) ⟨Nat.le_of_ble_eq_true rfl, Nat.le_of_ble_eq_true rfl⟩ (xX10_line  σ e1) rfl ?_
  refine AX.aload_n dL_law_586 2 rfl rfl ?_
  refine AX.callVw (r := 44) (As := []) (rest := [.int z1.1]) (w := some (.int z2.1)) (st' := [.int z2.1, .int z1.1]) dL_law_587 mlRL_78 ylX11_line yvX11_line rfl rfl rfl (Nat.le_of_ble_eq_true rfl) ⟨Nat.le_of_ble_eq_true rfl, Nat.le_of_ble_eq_true rfl⟩ (xX11_line  z1.2 e2) rfl ?_
  exact AX.icmp_eq (tgt := 1335) dL_law_590 rfl (fun _ => hback _ hi2) (fun c9 => absurd ev c9)
def ls_slips (Inv : St → Prop) : Prop := ∀ (σ : St) (a1 a2 a3 : Int32), Inv σ → ∃ z1 z2, fX10_slips a1 a2 a3 σ = some z1 ∧ fX11_slips a1 a2 a3 z1.2 = some z2 ∧ z1.1 = z2.1 ∧ Inv z2.2
theorem lawc_slips {G : ag_G} {Inv : St → Prop} {Q : Option Value → St → Prop} (hstep : ls_slips Inv) (l3 : Int32) (σ : St) (hinv : Inv σ) (hb1 : inb (l3 + 1) G.2.2.2.1 = true) (hb2 : inb (l3 + 2) G.2.2.2.1 = true) (hb3 : inb (l3 + 3) G.2.2.2.1 = true) (hback : ∀ σ2, Inv σ2 → AX G mL_law 10 237 1335 [(0, .ref (G.2.2.1 1002)), (1, .ref (G.2.2.1 0)), (2, .ref (G.2.2.1 44)), (3, .int l3)] [] σ2 Q) : AX G mL_law 10 237 595 [(0, .ref (G.2.2.1 1002)), (1, .ref (G.2.2.1 0)), (2, .ref (G.2.2.1 44)), (3, .int l3)] [] σ Q := by
  obtain ⟨z1, z2, e1, e2, ev, hi2⟩ := hstep σ (G.2.2.2.2 (l3 + 1).toNatClampNeg) (G.2.2.2.2 (l3 + 2).toNatClampNeg) (G.2.2.2.2 (l3 + 3).toNatClampNeg) hinv
  refine AX.aload_n dL_law_595 1 rfl rfl ?_
  refine AX.aload_n dL_law_596 0 rfl rfl ?_
  refine AX.iload_n dL_law_597 3 rfl rfl ?_
  refine AX.iconst dL_law_598 ic_1 ?_
  refine AX.iadd dL_law_599 ?_
  refine AX.ialdX dL_law_600 hb1 ?_
  refine AX.aload_n dL_law_601 0 rfl rfl ?_
  refine AX.iload_n dL_law_602 3 rfl rfl ?_
  refine AX.iconst dL_law_603 ic_2 ?_
  refine AX.iadd dL_law_604 ?_
  refine AX.ialdX dL_law_605 hb2 ?_
  refine AX.aload_n dL_law_606 0 rfl rfl ?_
  refine AX.iload_n dL_law_607 3 rfl rfl ?_
  refine AX.iconst dL_law_608 ic_3 ?_
  refine AX.iadd dL_law_609 ?_
  refine AX.ialdX dL_law_610 hb3 ?_
  refine AX.callVw (r := 0) (As := [.int (G.2.2.2.2 (l3 + 1).toNatClampNeg), .int (G.2.2.2.2 (l3 + 2).toNatClampNeg), .int (G.2.2.2.2 (l3 + 3).toNatClampNeg)]) (rest := []) (w := some (.long z1.1)) (st' := [.long z1.1]) dL_law_611 mlRL_79 ylX10_slips yvX10_slips rfl rfl rfl (Nat.le_of_ble_eq_true rfl) ⟨Nat.le_of_ble_eq_true rfl, Nat.le_of_ble_eq_true rfl⟩ (xX10_slips (G.2.2.2.2 (l3 + 1).toNatClampNeg) (G.2.2.2.2 (l3 + 2).toNatClampNeg) (G.2.2.2.2 (l3 + 3).toNatClampNeg) σ e1) rfl ?_
  refine AX.aload_n dL_law_614 2 rfl rfl ?_
  refine AX.aload_n dL_law_615 0 rfl rfl ?_
  refine AX.iload_n dL_law_616 3 rfl rfl ?_
  refine AX.iconst dL_law_617 ic_1 ?_
  refine AX.iadd dL_law_618 ?_
  refine AX.ialdX dL_law_619 hb1 ?_
  refine AX.aload_n dL_law_620 0 rfl rfl ?_
  refine AX.iload_n dL_law_621 3 rfl rfl ?_
  refine AX.iconst dL_law_622 ic_2 ?_
  refine AX.iadd dL_law_623 ?_
  refine AX.ialdX dL_law_624 hb2 ?_
  refine AX.aload_n dL_law_625 0 rfl rfl ?_
  refine AX.iload_n dL_law_626 3 rfl rfl ?_
  refine AX.iconst dL_law_627 ic_3 ?_
  refine AX.iadd dL_law_628 ?_
  refine AX.ialdX dL_law_629 hb3 ?_
  refine AX.callVw (r := 44) (As := [.int (G.2.2.2.2 (l3 + 1).toNatClampNeg), .int (G.2.2.2.2 (l3 + 2).toNatClampNeg), .int (G.2.2.2.2 (l3 + 3).toNatClampNeg)]) (rest := [.long z1.1]) (w := some (.long z2.1)) (st' := [.long z2.1, .long z1.1]) dL_law_630 mlRL_82 ylX11_slips yvX11_slips rfl rfl rfl (Nat.le_of_ble_eq_true rfl) ⟨Nat.le_of_ble_eq_true rfl, Nat.le_of_ble_eq_true rfl⟩ (xX11_slips (G.2.2.2.2 (l3 + 1).toNatClampNeg) (G.2.2.2.2 (l3 + 2).toNatClampNeg) (G.2.2.2.2 (l3 + 3).toNatClampNeg) z1.2 e2) rfl ?_
  exact AX.lcmp_eq (tgt := 1335) dL_law_633 dL_law_634 rfl (fun _ => hback _ hi2) (fun c9 => absurd ev c9)
def ls_safe (Inv : St → Prop) : Prop := ∀ (σ : St) (a1 a2 : Int32), Inv σ → ∃ z1 z2, fX10_safe a1 a2 σ = some z1 ∧ fX11_safe a1 a2 z1.2 = some z2 ∧ z1.1 = z2.1 ∧ Inv z2.2
theorem lawc_safe {G : ag_G} {Inv : St → Prop} {Q : Option Value → St → Prop} (hstep : ls_safe Inv) (l3 : Int32) (σ : St) (hinv : Inv σ) (hb1 : inb (l3 + 1) G.2.2.2.1 = true) (hb2 : inb (l3 + 2) G.2.2.2.1 = true) (hback : ∀ σ2, Inv σ2 → AX G mL_law 10 237 1335 [(0, .ref (G.2.2.1 1002)), (1, .ref (G.2.2.1 0)), (2, .ref (G.2.2.1 44)), (3, .int l3)] [] σ2 Q) : AX G mL_law 10 237 639 [(0, .ref (G.2.2.1 1002)), (1, .ref (G.2.2.1 0)), (2, .ref (G.2.2.1 44)), (3, .int l3)] [] σ Q := by
  obtain ⟨z1, z2, e1, e2, ev, hi2⟩ := hstep σ (G.2.2.2.2 (l3 + 1).toNatClampNeg) (G.2.2.2.2 (l3 + 2).toNatClampNeg) hinv
  refine AX.aload_n dL_law_639 1 rfl rfl ?_
  refine AX.aload_n dL_law_640 0 rfl rfl ?_
  refine AX.iload_n dL_law_641 3 rfl rfl ?_
  refine AX.iconst dL_law_642 ic_1 ?_
  refine AX.iadd dL_law_643 ?_
  refine AX.ialdX dL_law_644 hb1 ?_
  refine AX.aload_n dL_law_645 0 rfl rfl ?_
  refine AX.iload_n dL_law_646 3 rfl rfl ?_
  refine AX.iconst dL_law_647 ic_2 ?_
  refine AX.iadd dL_law_648 ?_
  refine AX.ialdX dL_law_649 hb2 ?_
  refine AX.callVw (r := 0) (As := [.int (G.2.2.2.2 (l3 + 1).toNatClampNeg), .int (G.2.2.2.2 (l3 + 2).toNatClampNeg)]) (rest := []) (w := some (.long z1.1)) (st' := [.long z1.1]) dL_law_650 mlRL_83 ylX10_safe yvX10_safe rfl rfl rfl (Nat.le_of_ble_eq_true rfl) ⟨Nat.le_of_ble_eq_true rfl, Nat.le_of_ble_eq_true rfl⟩ (xX10_safe (G.2.2.2.2 (l3 + 1).toNatClampNeg) (G.2.2.2.2 (l3 + 2).toNatClampNeg) σ e1) rfl ?_
  refine AX.aload_n dL_law_653 2 rfl rfl ?_
  refine AX.aload_n dL_law_654 0 rfl rfl ?_
  refine AX.iload_n dL_law_655 3 rfl rfl ?_
  refine AX.iconst dL_law_656 ic_1 ?_
  refine AX.iadd dL_law_657 ?_
  refine AX.ialdX dL_law_658 hb1 ?_
  refine AX.aload_n dL_law_659 0 rfl rfl ?_
  refine AX.iload_n dL_law_660 3 rfl rfl ?_
  refine AX.iconst dL_law_661 ic_2 ?_
  refine AX.iadd dL_law_662 ?_
  refine AX.ialdX dL_law_663 hb2 ?_
  refine AX.callVw (r := 44) (As := [.int (G.2.2.2.2 (l3 + 1).toNatClampNeg), .int (G.2.2.2.2 (l3 + 2).toNatClampNeg)]) (rest := [.long z1.1]) (w := some (.long z2.1)) (st' := [.long z2.1, .long z1.1]) dL_law_664 mlRL_86 ylX11_safe yvX11_safe rfl rfl rfl (Nat.le_of_ble_eq_true rfl) ⟨Nat.le_of_ble_eq_true rfl, Nat.le_of_ble_eq_true rfl⟩ (xX11_safe (G.2.2.2.2 (l3 + 1).toNatClampNeg) (G.2.2.2.2 (l3 + 2).toNatClampNeg) z1.2 e2) rfl ?_
  exact AX.lcmp_eq (tgt := 1335) dL_law_667 dL_law_668 rfl (fun _ => hback _ hi2) (fun c9 => absurd ev c9)
def ls_write (Inv : St → Prop) : Prop := ∀ (σ : St) (a1 : Int32), Inv σ → ∃ z1 z2, fX10_write a1 σ = some z1 ∧ fX11_write a1 z1.2 = some z2 ∧ z1.1 = z2.1 ∧ Inv z2.2
theorem lawc_write {G : ag_G} {Inv : St → Prop} {Q : Option Value → St → Prop} (hstep : ls_write Inv) (l3 : Int32) (σ : St) (hinv : Inv σ) (hb1 : inb (l3 + 1) G.2.2.2.1 = true) (hback : ∀ σ2, Inv σ2 → AX G mL_law 10 237 1335 [(0, .ref (G.2.2.1 1002)), (1, .ref (G.2.2.1 0)), (2, .ref (G.2.2.1 44)), (3, .int l3)] [] σ2 Q) : AX G mL_law 10 237 673 [(0, .ref (G.2.2.1 1002)), (1, .ref (G.2.2.1 0)), (2, .ref (G.2.2.1 44)), (3, .int l3)] [] σ Q := by
  obtain ⟨z1, z2, e1, e2, ev, hi2⟩ := hstep σ (G.2.2.2.2 (l3 + 1).toNatClampNeg) hinv
  refine AX.aload_n dL_law_673 1 rfl rfl ?_
  refine AX.aload_n dL_law_674 0 rfl rfl ?_
  refine AX.iload_n dL_law_675 3 rfl rfl ?_
  refine AX.iconst dL_law_676 ic_1 ?_
  refine AX.iadd dL_law_677 ?_
  refine AX.ialdX dL_law_678 hb1 ?_
  refine AX.callVw (r := 0) (As := [.int (G.2.2.2.2 (l3 + 1).toNatClampNeg)]) (rest := []) (w := some (.int z1.1)) (st' := [.int z1.1]) dL_law_679 mlRL_87 ylX10_write yvX10_write rfl rfl rfl (Nat.le_of_ble_eq_true rfl) ⟨Nat.le_of_ble_eq_true rfl, Nat.le_of_ble_eq_true rfl⟩ (xX10_write (G.2.2.2.2 (l3 + 1).toNatClampNeg) σ e1) rfl ?_
  refine AX.aload_n dL_law_682 2 rfl rfl ?_
  refine AX.aload_n dL_law_683 0 rfl rfl ?_
  refine AX.iload_n dL_law_684 3 rfl rfl ?_
  refine AX.iconst dL_law_685 ic_1 ?_
  refine AX.iadd dL_law_686 ?_
  refine AX.ialdX dL_law_687 hb1 ?_
  refine AX.callVw (r := 44) (As := [.int (G.2.2.2.2 (l3 + 1).toNatClampNeg)]) (rest := [.int z1.1]) (w := some (.int z2.1)) (st' := [.int z2.1, .int z1.1]) dL_law_688 mlRL_90 ylX11_write yvX11_write rfl rfl rfl (Nat.le_of_ble_eq_true rfl) ⟨Nat.le_of_ble_eq_true rfl, Nat.le_of_ble_eq_true rfl⟩ (xX11_write (G.2.2.2.2 (l3 + 1).toNatClampNeg) z1.2 e2) rfl ?_
  exact AX.icmp_eq (tgt := 1335) dL_law_691 rfl (fun _ => hback _ hi2) (fun c9 => absurd ev c9)
def ls_few (Inv : St → Prop) : Prop := ∀ (σ : St) (a1 : Int32), Inv σ → ∃ z1 z2, fX10_few a1 σ = some z1 ∧ fX11_few a1 z1.2 = some z2 ∧ z1.1 = z2.1 ∧ Inv z2.2
theorem lawc_few {G : ag_G} {Inv : St → Prop} {Q : Option Value → St → Prop} (hstep : ls_few Inv) (l3 : Int32) (σ : St) (hinv : Inv σ) (hb1 : inb (l3 + 1) G.2.2.2.1 = true) (hback : ∀ σ2, Inv σ2 → AX G mL_law 10 237 1335 [(0, .ref (G.2.2.1 1002)), (1, .ref (G.2.2.1 0)), (2, .ref (G.2.2.1 44)), (3, .int l3)] [] σ2 Q) : AX G mL_law 10 237 696 [(0, .ref (G.2.2.1 1002)), (1, .ref (G.2.2.1 0)), (2, .ref (G.2.2.1 44)), (3, .int l3)] [] σ Q := by
  obtain ⟨z1, z2, e1, e2, ev, hi2⟩ := hstep σ (G.2.2.2.2 (l3 + 1).toNatClampNeg) hinv
  refine AX.aload_n dL_law_696 1 rfl rfl ?_
  refine AX.aload_n dL_law_697 0 rfl rfl ?_
  refine AX.iload_n dL_law_698 3 rfl rfl ?_
  refine AX.iconst dL_law_699 ic_1 ?_
  refine AX.iadd dL_law_700 ?_
  refine AX.ialdX dL_law_701 hb1 ?_
  refine AX.callVw (r := 0) (As := [.int (G.2.2.2.2 (l3 + 1).toNatClampNeg)]) (rest := []) (w := some (.int z1.1)) (st' := [.int z1.1]) dL_law_702 mlRL_91 ylX10_few yvX10_few rfl rfl rfl (Nat.le_of_ble_eq_true rfl) ⟨Nat.le_of_ble_eq_true rfl, Nat.le_of_ble_eq_true rfl⟩ (xX10_few (G.2.2.2.2 (l3 + 1).toNatClampNeg) σ e1) rfl ?_
  refine AX.aload_n dL_law_705 2 rfl rfl ?_
  refine AX.aload_n dL_law_706 0 rfl rfl ?_
  refine AX.iload_n dL_law_707 3 rfl rfl ?_
  refine AX.iconst dL_law_708 ic_1 ?_
  refine AX.iadd dL_law_709 ?_
  refine AX.ialdX dL_law_710 hb1 ?_
  refine AX.callVw (r := 44) (As := [.int (G.2.2.2.2 (l3 + 1).toNatClampNeg)]) (rest := [.int z1.1]) (w := some (.int z2.1)) (st' := [.int z2.1, .int z1.1]) dL_law_711 mlRL_94 ylX11_few yvX11_few rfl rfl rfl (Nat.le_of_ble_eq_true rfl) ⟨Nat.le_of_ble_eq_true rfl, Nat.le_of_ble_eq_true rfl⟩ (xX11_few (G.2.2.2.2 (l3 + 1).toNatClampNeg) z1.2 e2) rfl ?_
  exact AX.icmp_eq (tgt := 1335) dL_law_714 rfl (fun _ => hback _ hi2) (fun c9 => absurd ev c9)
def ls_anew (Inv : St → Prop) : Prop := ∀ (σ : St) (a1 : Int32), Inv σ → ∃ z1 z2, fX10_anew a1 σ = some z1 ∧ fX11_anew a1 z1.2 = some z2 ∧ z1.1 = z2.1 ∧ Inv z2.2
theorem lawc_anew {G : ag_G} {Inv : St → Prop} {Q : Option Value → St → Prop} (hstep : ls_anew Inv) (l3 : Int32) (σ : St) (hinv : Inv σ) (hb1 : inb (l3 + 1) G.2.2.2.1 = true) (hback : ∀ σ2, Inv σ2 → AX G mL_law 10 237 1335 [(0, .ref (G.2.2.1 1002)), (1, .ref (G.2.2.1 0)), (2, .ref (G.2.2.1 44)), (3, .int l3)] [] σ2 Q) : AX G mL_law 10 237 719 [(0, .ref (G.2.2.1 1002)), (1, .ref (G.2.2.1 0)), (2, .ref (G.2.2.1 44)), (3, .int l3)] [] σ Q := by
  obtain ⟨z1, z2, e1, e2, ev, hi2⟩ := hstep σ (G.2.2.2.2 (l3 + 1).toNatClampNeg) hinv
  refine AX.aload_n dL_law_719 1 rfl rfl ?_
  refine AX.aload_n dL_law_720 0 rfl rfl ?_
  refine AX.iload_n dL_law_721 3 rfl rfl ?_
  refine AX.iconst dL_law_722 ic_1 ?_
  refine AX.iadd dL_law_723 ?_
  refine AX.ialdX dL_law_724 hb1 ?_
  refine AX.callVw (r := 0) (As := [.int (G.2.2.2.2 (l3 + 1).toNatClampNeg)]) (rest := []) (w := some (.int z1.1)) (st' := [.int z1.1]) dL_law_725 mlRL_95 ylX10_anew yvX10_anew rfl rfl rfl (Nat.le_of_ble_eq_true rfl) ⟨Nat.le_of_ble_eq_true rfl, Nat.le_of_ble_eq_true rfl⟩ (xX10_anew (G.2.2.2.2 (l3 + 1).toNatClampNeg) σ e1) rfl ?_
  refine AX.aload_n dL_law_728 2 rfl rfl ?_
  refine AX.aload_n dL_law_729 0 rfl rfl ?_
  refine AX.iload_n dL_law_730 3 rfl rfl ?_
  refine AX.iconst dL_law_731 ic_1 ?_
  refine AX.iadd dL_law_732 ?_
  refine AX.ialdX dL_law_733 hb1 ?_
  refine AX.callVw (r := 44) (As := [.int (G.2.2.2.2 (l3 + 1).toNatClampNeg)]) (rest := [.int z1.1]) (w := some (.int z2.1)) (st' := [.int z2.1, .int z1.1]) dL_law_734 mlRL_98 ylX11_anew yvX11_anew rfl rfl rfl (Nat.le_of_ble_eq_true rfl) ⟨Nat.le_of_ble_eq_true rfl, Nat.le_of_ble_eq_true rfl⟩ (xX11_anew (G.2.2.2.2 (l3 + 1).toNatClampNeg) z1.2 e2) rfl ?_
  exact AX.icmp_eq (tgt := 1335) dL_law_737 rfl (fun _ => hback _ hi2) (fun c9 => absurd ev c9)
def ls_joint (Inv : St → Prop) : Prop := ∀ (σ : St) (a1 a2 a3 : Int32), Inv σ → ∃ z1 z2, fX10_joint a1 a2 a3 = some z1 ∧ fX11_joint a1 a2 a3 = some z2 ∧ z1 = z2 ∧ Inv σ
theorem lawc_joint {G : ag_G} {Inv : St → Prop} {Q : Option Value → St → Prop} (hstep : ls_joint Inv) (l3 : Int32) (σ : St) (hinv : Inv σ) (hb1 : inb (l3 + 1) G.2.2.2.1 = true) (hb2 : inb (l3 + 2) G.2.2.2.1 = true) (hb3 : inb (l3 + 3) G.2.2.2.1 = true) (hback : ∀ σ2, Inv σ2 → AX G mL_law 10 237 1335 [(0, .ref (G.2.2.1 1002)), (1, .ref (G.2.2.1 0)), (2, .ref (G.2.2.1 44)), (3, .int l3)] [] σ2 Q) : AX G mL_law 10 237 742 [(0, .ref (G.2.2.1 1002)), (1, .ref (G.2.2.1 0)), (2, .ref (G.2.2.1 44)), (3, .int l3)] [] σ Q := by
  obtain ⟨z1, z2, e1, e2, ev, hi2⟩ := hstep σ (G.2.2.2.2 (l3 + 1).toNatClampNeg) (G.2.2.2.2 (l3 + 2).toNatClampNeg) (G.2.2.2.2 (l3 + 3).toNatClampNeg) hinv
  refine AX.aload_n dL_law_742 1 rfl rfl ?_
  refine AX.aload_n dL_law_743 0 rfl rfl ?_
  refine AX.iload_n dL_law_744 3 rfl rfl ?_
  refine AX.iconst dL_law_745 ic_1 ?_
  refine AX.iadd dL_law_746 ?_
  refine AX.ialdX dL_law_747 hb1 ?_
  refine AX.aload_n dL_law_748 0 rfl rfl ?_
  refine AX.iload_n dL_law_749 3 rfl rfl ?_
  refine AX.iconst dL_law_750 ic_2 ?_
  refine AX.iadd dL_law_751 ?_
  refine AX.ialdX dL_law_752 hb2 ?_
  refine AX.aload_n dL_law_753 0 rfl rfl ?_
  refine AX.iload_n dL_law_754 3 rfl rfl ?_
  refine AX.iconst dL_law_755 ic_3 ?_
  refine AX.iadd dL_law_756 ?_
  refine AX.ialdX dL_law_757 hb3 ?_
  refine AX.callVw (r := 0) (As := [.int (G.2.2.2.2 (l3 + 1).toNatClampNeg), .int (G.2.2.2.2 (l3 + 2).toNatClampNeg), .int (G.2.2.2.2 (l3 + 3).toNatClampNeg)]) (rest := []) (w := some (.long z1)) (st' := [.long z1]) dL_law_758 mlRL_99 ylX10_joint yvX10_joint rfl rfl rfl (Nat.le_of_ble_eq_true rfl) ⟨Nat.le_of_ble_eq_true rfl, Nat.le_of_ble_eq_true rfl⟩ (xX10_joint (G.2.2.2.2 (l3 + 1).toNatClampNeg) (G.2.2.2.2 (l3 + 2).toNatClampNeg) (G.2.2.2.2 (l3 + 3).toNatClampNeg) σ e1) rfl ?_
  refine AX.aload_n dL_law_761 2 rfl rfl ?_
  refine AX.aload_n dL_law_762 0 rfl rfl ?_
  refine AX.iload_n dL_law_763 3 rfl rfl ?_
  refine AX.iconst dL_law_764 ic_1 ?_
  refine AX.iadd dL_law_765 ?_
  refine AX.ialdX dL_law_766 hb1 ?_
  refine AX.aload_n dL_law_767 0 rfl rfl ?_
  refine AX.iload_n dL_law_768 3 rfl rfl ?_
  refine AX.iconst dL_law_769 ic_2 ?_
  refine AX.iadd dL_law_770 ?_
  refine AX.ialdX dL_law_771 hb2 ?_
  refine AX.aload_n dL_law_772 0 rfl rfl ?_
  refine AX.iload_n dL_law_773 3 rfl rfl ?_
  refine AX.iconst dL_law_774 ic_3 ?_
  refine AX.iadd dL_law_775 ?_
  refine AX.ialdX dL_law_776 hb3 ?_
  refine AX.callVw (r := 44) (As := [.int (G.2.2.2.2 (l3 + 1).toNatClampNeg), .int (G.2.2.2.2 (l3 + 2).toNatClampNeg), .int (G.2.2.2.2 (l3 + 3).toNatClampNeg)]) (rest := [.long z1]) (w := some (.long z2)) (st' := [.long z2, .long z1]) dL_law_777 mlRL_102 ylX11_joint yvX11_joint rfl rfl rfl (Nat.le_of_ble_eq_true rfl) ⟨Nat.le_of_ble_eq_true rfl, Nat.le_of_ble_eq_true rfl⟩ (xX11_joint (G.2.2.2.2 (l3 + 1).toNatClampNeg) (G.2.2.2.2 (l3 + 2).toNatClampNeg) (G.2.2.2.2 (l3 + 3).toNatClampNeg) σ e2) rfl ?_
  exact AX.lcmp_eq (tgt := 1335) dL_law_780 dL_law_781 rfl (fun _ => hback _ hi2) (fun c9 => absurd ev c9)
def ls_evening (Inv : St → Prop) : Prop := ∀ (σ : St) (a1 a2 : Int32), Inv σ → ∃ z1 z2, fX10_evening a1 a2 σ = some z1 ∧ fX11_evening a1 a2 z1.2 = some z2 ∧ z1.1 = z2.1 ∧ Inv z2.2
theorem lawc_evening {G : ag_G} {Inv : St → Prop} {Q : Option Value → St → Prop} (hstep : ls_evening Inv) (l3 : Int32) (σ : St) (hinv : Inv σ) (hb1 : inb (l3 + 1) G.2.2.2.1 = true) (hb2 : inb (l3 + 2) G.2.2.2.1 = true) (hback : ∀ σ2, Inv σ2 → AX G mL_law 10 237 1335 [(0, .ref (G.2.2.1 1002)), (1, .ref (G.2.2.1 0)), (2, .ref (G.2.2.1 44)), (3, .int l3)] [] σ2 Q) : AX G mL_law 10 237 786 [(0, .ref (G.2.2.1 1002)), (1, .ref (G.2.2.1 0)), (2, .ref (G.2.2.1 44)), (3, .int l3)] [] σ Q := by
  obtain ⟨z1, z2, e1, e2, ev, hi2⟩ := hstep σ (G.2.2.2.2 (l3 + 1).toNatClampNeg) (G.2.2.2.2 (l3 + 2).toNatClampNeg) hinv
  refine AX.aload_n dL_law_786 1 rfl rfl ?_
  refine AX.aload_n dL_law_787 0 rfl rfl ?_
  refine AX.iload_n dL_law_788 3 rfl rfl ?_
  refine AX.iconst dL_law_789 ic_1 ?_
  refine AX.iadd dL_law_790 ?_
  refine AX.ialdX dL_law_791 hb1 ?_
  refine AX.aload_n dL_law_792 0 rfl rfl ?_
  refine AX.iload_n dL_law_793 3 rfl rfl ?_
  refine AX.iconst dL_law_794 ic_2 ?_
  refine AX.iadd dL_law_795 ?_
  refine AX.ialdX dL_law_796 hb2 ?_
  refine AX.callVw (r := 0) (As := [.int (G.2.2.2.2 (l3 + 1).toNatClampNeg), .int (G.2.2.2.2 (l3 + 2).toNatClampNeg)]) (rest := []) (w := some (.long z1.1)) (st' := [.long z1.1]) dL_law_797 mlRL_103 ylX10_evening yvX10_evening rfl rfl rfl (Nat.le_of_ble_eq_true rfl) ⟨Nat.le_of_ble_eq_true rfl, Nat.le_of_ble_eq_true rfl⟩ (xX10_evening (G.2.2.2.2 (l3 + 1).toNatClampNeg) (G.2.2.2.2 (l3 + 2).toNatClampNeg) σ e1) rfl ?_
  refine AX.aload_n dL_law_800 2 rfl rfl ?_
  refine AX.aload_n dL_law_801 0 rfl rfl ?_
  refine AX.iload_n dL_law_802 3 rfl rfl ?_
  refine AX.iconst dL_law_803 ic_1 ?_
  refine AX.iadd dL_law_804 ?_
  refine AX.ialdX dL_law_805 hb1 ?_
  refine AX.aload_n dL_law_806 0 rfl rfl ?_
  refine AX.iload_n dL_law_807 3 rfl rfl ?_
  refine AX.iconst dL_law_808 ic_2 ?_
  refine AX.iadd dL_law_809 ?_
  refine AX.ialdX dL_law_810 hb2 ?_
  refine AX.callVw (r := 44) (As := [.int (G.2.2.2.2 (l3 + 1).toNatClampNeg), .int (G.2.2.2.2 (l3 + 2).toNatClampNeg)]) (rest := [.long z1.1]) (w := some (.long z2.1)) (st' := [.long z2.1, .long z1.1]) dL_law_811 mlRL_106 ylX11_evening yvX11_evening rfl rfl rfl (Nat.le_of_ble_eq_true rfl) ⟨Nat.le_of_ble_eq_true rfl, Nat.le_of_ble_eq_true rfl⟩ (xX11_evening (G.2.2.2.2 (l3 + 1).toNatClampNeg) (G.2.2.2.2 (l3 + 2).toNatClampNeg) z1.2 e2) rfl ?_
  exact AX.lcmp_eq (tgt := 1335) dL_law_814 dL_law_815 rfl (fun _ => hback _ hi2) (fun c9 => absurd ev c9)
def ls_prime (Inv : St → Prop) : Prop := ∀ (σ : St) (a1 : Int32), Inv σ → ∃ z1 z2, fX10_prime a1 σ = some z1 ∧ fX11_prime a1 z1.2 = some z2 ∧ z1.1 = z2.1 ∧ Inv z2.2
theorem lawc_prime {G : ag_G} {Inv : St → Prop} {Q : Option Value → St → Prop} (hstep : ls_prime Inv) (l3 : Int32) (σ : St) (hinv : Inv σ) (hb1 : inb (l3 + 1) G.2.2.2.1 = true) (hback : ∀ σ2, Inv σ2 → AX G mL_law 10 237 1335 [(0, .ref (G.2.2.1 1002)), (1, .ref (G.2.2.1 0)), (2, .ref (G.2.2.1 44)), (3, .int l3)] [] σ2 Q) : AX G mL_law 10 237 820 [(0, .ref (G.2.2.1 1002)), (1, .ref (G.2.2.1 0)), (2, .ref (G.2.2.1 44)), (3, .int l3)] [] σ Q := by
  obtain ⟨z1, z2, e1, e2, ev, hi2⟩ := hstep σ (G.2.2.2.2 (l3 + 1).toNatClampNeg) hinv
  refine AX.aload_n dL_law_820 1 rfl rfl ?_
  refine AX.aload_n dL_law_821 0 rfl rfl ?_
  refine AX.iload_n dL_law_822 3 rfl rfl ?_
  refine AX.iconst dL_law_823 ic_1 ?_
  refine AX.iadd dL_law_824 ?_
  refine AX.ialdX dL_law_825 hb1 ?_
  refine AX.callVw (r := 0) (As := [.int (G.2.2.2.2 (l3 + 1).toNatClampNeg)]) (rest := []) (w := some (.int z1.1)) (st' := [.int z1.1]) dL_law_826 mlRL_107 ylX10_prime yvX10_prime rfl rfl rfl (Nat.le_of_ble_eq_true rfl) ⟨Nat.le_of_ble_eq_true rfl, Nat.le_of_ble_eq_true rfl⟩ (xX10_prime (G.2.2.2.2 (l3 + 1).toNatClampNeg) σ e1) rfl ?_
  refine AX.aload_n dL_law_829 2 rfl rfl ?_
  refine AX.aload_n dL_law_830 0 rfl rfl ?_
  refine AX.iload_n dL_law_831 3 rfl rfl ?_
  refine AX.iconst dL_law_832 ic_1 ?_
  refine AX.iadd dL_law_833 ?_
  refine AX.ialdX dL_law_834 hb1 ?_
  refine AX.callVw (r := 44) (As := [.int (G.2.2.2.2 (l3 + 1).toNatClampNeg)]) (rest := [.int z1.1]) (w := some (.int z2.1)) (st' := [.int z2.1, .int z1.1]) dL_law_835 mlRL_110 ylX11_prime yvX11_prime rfl rfl rfl (Nat.le_of_ble_eq_true rfl) ⟨Nat.le_of_ble_eq_true rfl, Nat.le_of_ble_eq_true rfl⟩ (xX11_prime (G.2.2.2.2 (l3 + 1).toNatClampNeg) z1.2 e2) rfl ?_
  exact AX.icmp_eq (tgt := 1335) dL_law_838 rfl (fun _ => hback _ hi2) (fun c9 => absurd ev c9)
def ls_player (Inv : St → Prop) : Prop := ∀ (σ : St) (a1 a2 : Int32), Inv σ → ∃ z1 z2, fX10_player a1 a2 σ = some z1 ∧ fX11_player a1 a2 z1.2 = some z2 ∧ z1.1 = z2.1 ∧ Inv z2.2
theorem lawc_player {G : ag_G} {Inv : St → Prop} {Q : Option Value → St → Prop} (hstep : ls_player Inv) (l3 : Int32) (σ : St) (hinv : Inv σ) (hb1 : inb (l3 + 1) G.2.2.2.1 = true) (hb2 : inb (l3 + 2) G.2.2.2.1 = true) (hback : ∀ σ2, Inv σ2 → AX G mL_law 10 237 1335 [(0, .ref (G.2.2.1 1002)), (1, .ref (G.2.2.1 0)), (2, .ref (G.2.2.1 44)), (3, .int l3)] [] σ2 Q) : AX G mL_law 10 237 843 [(0, .ref (G.2.2.1 1002)), (1, .ref (G.2.2.1 0)), (2, .ref (G.2.2.1 44)), (3, .int l3)] [] σ Q := by
  obtain ⟨z1, z2, e1, e2, ev, hi2⟩ := hstep σ (G.2.2.2.2 (l3 + 1).toNatClampNeg) (G.2.2.2.2 (l3 + 2).toNatClampNeg) hinv
  refine AX.aload_n dL_law_843 1 rfl rfl ?_
  refine AX.aload_n dL_law_844 0 rfl rfl ?_
  refine AX.iload_n dL_law_845 3 rfl rfl ?_
  refine AX.iconst dL_law_846 ic_1 ?_
  refine AX.iadd dL_law_847 ?_
  refine AX.ialdX dL_law_848 hb1 ?_
  refine AX.aload_n dL_law_849 0 rfl rfl ?_
  refine AX.iload_n dL_law_850 3 rfl rfl ?_
  refine AX.iconst dL_law_851 ic_2 ?_
  refine AX.iadd dL_law_852 ?_
  refine AX.ialdX dL_law_853 hb2 ?_
  refine AX.callVw (r := 0) (As := [.int (G.2.2.2.2 (l3 + 1).toNatClampNeg), .int (G.2.2.2.2 (l3 + 2).toNatClampNeg)]) (rest := []) (w := some (.int z1.1)) (st' := [.int z1.1]) dL_law_854 mlRL_111 ylX10_player yvX10_player rfl rfl rfl (Nat.le_of_ble_eq_true rfl) ⟨Nat.le_of_ble_eq_true rfl, Nat.le_of_ble_eq_true rfl⟩ (xX10_player (G.2.2.2.2 (l3 + 1).toNatClampNeg) (G.2.2.2.2 (l3 + 2).toNatClampNeg) σ e1) rfl ?_
  refine AX.aload_n dL_law_857 2 rfl rfl ?_
  refine AX.aload_n dL_law_858 0 rfl rfl ?_
  refine AX.iload_n dL_law_859 3 rfl rfl ?_
  refine AX.iconst dL_law_860 ic_1 ?_
  refine AX.iadd dL_law_861 ?_
  refine AX.ialdX dL_law_862 hb1 ?_
  refine AX.aload_n dL_law_863 0 rfl rfl ?_
  refine AX.iload_n dL_law_864 3 rfl rfl ?_
  refine AX.iconst dL_law_865 ic_2 ?_
  refine AX.iadd dL_law_866 ?_
  refine AX.ialdX dL_law_867 hb2 ?_
  refine AX.callVw (r := 44) (As := [.int (G.2.2.2.2 (l3 + 1).toNatClampNeg), .int (G.2.2.2.2 (l3 + 2).toNatClampNeg)]) (rest := [.int z1.1]) (w := some (.int z2.1)) (st' := [.int z2.1, .int z1.1]) dL_law_868 mlRL_114 ylX11_player yvX11_player rfl rfl rfl (Nat.le_of_ble_eq_true rfl) ⟨Nat.le_of_ble_eq_true rfl, Nat.le_of_ble_eq_true rfl⟩ (xX11_player (G.2.2.2.2 (l3 + 1).toNatClampNeg) (G.2.2.2.2 (l3 + 2).toNatClampNeg) z1.2 e2) rfl ?_
  exact AX.icmp_eq (tgt := 1335) dL_law_871 rfl (fun _ => hback _ hi2) (fun c9 => absurd ev c9)
def ls_leave (Inv : St → Prop) : Prop := ∀ (σ : St), Inv σ → ∃ z1 z2, fX10_leave σ = some z1 ∧ fX11_leave z1.2 = some z2 ∧ z1.1 = z2.1 ∧ Inv z2.2
theorem lawc_leave {G : ag_G} {Inv : St → Prop} {Q : Option Value → St → Prop} (hstep : ls_leave Inv) (l3 : Int32) (σ : St) (hinv : Inv σ)  (hback : ∀ σ2, Inv σ2 → AX G mL_law 10 237 1335 [(0, .ref (G.2.2.1 1002)), (1, .ref (G.2.2.1 0)), (2, .ref (G.2.2.1 44)), (3, .int l3)] [] σ2 Q) : AX G mL_law 10 237 876 [(0, .ref (G.2.2.1 1002)), (1, .ref (G.2.2.1 0)), (2, .ref (G.2.2.1 44)), (3, .int l3)] [] σ Q := by
  obtain ⟨z1, z2, e1, e2, ev, hi2⟩ := hstep σ hinv
  refine AX.aload_n dL_law_876 1 rfl rfl ?_
  refine AX.callVw (r := 0) (As := []) (rest := []) (w := some (.int z1.1)) (st' := [.int z1.1]) dL_law_877 mlRL_115 ylX10_leave yvX10_leave rfl rfl rfl (Nat.le_of_ble_eq_true rfl) ⟨Nat.le_of_ble_eq_true rfl, Nat.le_of_ble_eq_true rfl⟩ (xX10_leave  σ e1) rfl ?_
  refine AX.aload_n dL_law_880 2 rfl rfl ?_
  refine AX.callVw (r := 44) (As := []) (rest := [.int z1.1]) (w := some (.int z2.1)) (st' := [.int z2.1, .int z1.1]) dL_law_881 mlRL_118 ylX11_leave yvX11_leave rfl rfl rfl (Nat.le_of_ble_eq_true rfl) ⟨Nat.le_of_ble_eq_true rfl, Nat.le_of_ble_eq_true rfl⟩ (xX11_leave  z1.2 e2) rfl ?_
  exact AX.icmp_eq (tgt := 1335) dL_law_884 rfl (fun _ => hback _ hi2) (fun c9 => absurd ev c9)
def ls_worth (Inv : St → Prop) : Prop := ∀ (σ : St) (a1 : Int32), Inv σ → ∃ z1 z2, fX10_worth a1 σ = some z1 ∧ fX11_worth a1 z1.2 = some z2 ∧ z1.1 = z2.1 ∧ Inv z2.2
theorem lawc_worth {G : ag_G} {Inv : St → Prop} {Q : Option Value → St → Prop} (hstep : ls_worth Inv) (l3 : Int32) (σ : St) (hinv : Inv σ) (hb1 : inb (l3 + 1) G.2.2.2.1 = true) (hback : ∀ σ2, Inv σ2 → AX G mL_law 10 237 1335 [(0, .ref (G.2.2.1 1002)), (1, .ref (G.2.2.1 0)), (2, .ref (G.2.2.1 44)), (3, .int l3)] [] σ2 Q) : AX G mL_law 10 237 889 [(0, .ref (G.2.2.1 1002)), (1, .ref (G.2.2.1 0)), (2, .ref (G.2.2.1 44)), (3, .int l3)] [] σ Q := by
  obtain ⟨z1, z2, e1, e2, ev, hi2⟩ := hstep σ (G.2.2.2.2 (l3 + 1).toNatClampNeg) hinv
  refine AX.aload_n dL_law_889 1 rfl rfl ?_
  refine AX.aload_n dL_law_890 0 rfl rfl ?_
  refine AX.iload_n dL_law_891 3 rfl rfl ?_
  refine AX.iconst dL_law_892 ic_1 ?_
  refine AX.iadd dL_law_893 ?_
  refine AX.ialdX dL_law_894 hb1 ?_
  refine AX.callVw (r := 0) (As := [.int (G.2.2.2.2 (l3 + 1).toNatClampNeg)]) (rest := []) (w := some (.int z1.1)) (st' := [.int z1.1]) dL_law_895 mlRL_119 ylX10_worth yvX10_worth rfl rfl rfl (Nat.le_of_ble_eq_true rfl) ⟨Nat.le_of_ble_eq_true rfl, Nat.le_of_ble_eq_true rfl⟩ (xX10_worth (G.2.2.2.2 (l3 + 1).toNatClampNeg) σ e1) rfl ?_
  refine AX.aload_n dL_law_898 2 rfl rfl ?_
  refine AX.aload_n dL_law_899 0 rfl rfl ?_
  refine AX.iload_n dL_law_900 3 rfl rfl ?_
  refine AX.iconst dL_law_901 ic_1 ?_
  refine AX.iadd dL_law_902 ?_
  refine AX.ialdX dL_law_903 hb1 ?_
  refine AX.callVw (r := 44) (As := [.int (G.2.2.2.2 (l3 + 1).toNatClampNeg)]) (rest := [.int z1.1]) (w := some (.int z2.1)) (st' := [.int z2.1, .int z1.1]) dL_law_904 mlRL_122 ylX11_worth yvX11_worth rfl rfl rfl (Nat.le_of_ble_eq_true rfl) ⟨Nat.le_of_ble_eq_true rfl, Nat.le_of_ble_eq_true rfl⟩ (xX11_worth (G.2.2.2.2 (l3 + 1).toNatClampNeg) z1.2 e2) rfl ?_
  exact AX.icmp_eq (tgt := 1335) dL_law_907 rfl (fun _ => hback _ hi2) (fun c9 => absurd ev c9)
def ls_look (Inv : St → Prop) : Prop := ∀ (σ : St) (a1 : Int32), Inv σ → ∃ z1 z2, fX10_look a1 σ = some z1 ∧ fX11_look a1 z1.2 = some z2 ∧ z1.1 = z2.1 ∧ Inv z2.2
theorem lawc_look {G : ag_G} {Inv : St → Prop} {Q : Option Value → St → Prop} (hstep : ls_look Inv) (l3 : Int32) (σ : St) (hinv : Inv σ) (hb1 : inb (l3 + 1) G.2.2.2.1 = true) (hback : ∀ σ2, Inv σ2 → AX G mL_law 10 237 1335 [(0, .ref (G.2.2.1 1002)), (1, .ref (G.2.2.1 0)), (2, .ref (G.2.2.1 44)), (3, .int l3)] [] σ2 Q) : AX G mL_law 10 237 912 [(0, .ref (G.2.2.1 1002)), (1, .ref (G.2.2.1 0)), (2, .ref (G.2.2.1 44)), (3, .int l3)] [] σ Q := by
  obtain ⟨z1, z2, e1, e2, ev, hi2⟩ := hstep σ (G.2.2.2.2 (l3 + 1).toNatClampNeg) hinv
  refine AX.aload_n dL_law_912 1 rfl rfl ?_
  refine AX.aload_n dL_law_913 0 rfl rfl ?_
  refine AX.iload_n dL_law_914 3 rfl rfl ?_
  refine AX.iconst dL_law_915 ic_1 ?_
  refine AX.iadd dL_law_916 ?_
  refine AX.ialdX dL_law_917 hb1 ?_
  refine AX.callVw (r := 0) (As := [.int (G.2.2.2.2 (l3 + 1).toNatClampNeg)]) (rest := []) (w := some (.int z1.1)) (st' := [.int z1.1]) dL_law_918 mlRL_123 ylX10_look yvX10_look rfl rfl rfl (Nat.le_of_ble_eq_true rfl) ⟨Nat.le_of_ble_eq_true rfl, Nat.le_of_ble_eq_true rfl⟩ (xX10_look (G.2.2.2.2 (l3 + 1).toNatClampNeg) σ e1) rfl ?_
  refine AX.aload_n dL_law_921 2 rfl rfl ?_
  refine AX.aload_n dL_law_922 0 rfl rfl ?_
  refine AX.iload_n dL_law_923 3 rfl rfl ?_
  refine AX.iconst dL_law_924 ic_1 ?_
  refine AX.iadd dL_law_925 ?_
  refine AX.ialdX dL_law_926 hb1 ?_
  refine AX.callVw (r := 44) (As := [.int (G.2.2.2.2 (l3 + 1).toNatClampNeg)]) (rest := [.int z1.1]) (w := some (.int z2.1)) (st' := [.int z2.1, .int z1.1]) dL_law_927 mlRL_126 ylX11_look yvX11_look rfl rfl rfl (Nat.le_of_ble_eq_true rfl) ⟨Nat.le_of_ble_eq_true rfl, Nat.le_of_ble_eq_true rfl⟩ (xX11_look (G.2.2.2.2 (l3 + 1).toNatClampNeg) z1.2 e2) rfl ?_
  exact AX.icmp_eq (tgt := 1335) dL_law_930 rfl (fun _ => hback _ hi2) (fun c9 => absurd ev c9)
def ls_from (Inv : St → Prop) : Prop := ∀ (σ : St) (a1 : Int32), Inv σ → ∃ z1 z2, fX10_from a1 σ = some z1 ∧ fX11_from a1 z1.2 = some z2 ∧ z1.1 = z2.1 ∧ Inv z2.2
theorem lawc_from {G : ag_G} {Inv : St → Prop} {Q : Option Value → St → Prop} (hstep : ls_from Inv) (l3 : Int32) (σ : St) (hinv : Inv σ) (hb1 : inb (l3 + 1) G.2.2.2.1 = true) (hback : ∀ σ2, Inv σ2 → AX G mL_law 10 237 1335 [(0, .ref (G.2.2.1 1002)), (1, .ref (G.2.2.1 0)), (2, .ref (G.2.2.1 44)), (3, .int l3)] [] σ2 Q) : AX G mL_law 10 237 935 [(0, .ref (G.2.2.1 1002)), (1, .ref (G.2.2.1 0)), (2, .ref (G.2.2.1 44)), (3, .int l3)] [] σ Q := by
  obtain ⟨z1, z2, e1, e2, ev, hi2⟩ := hstep σ (G.2.2.2.2 (l3 + 1).toNatClampNeg) hinv
  refine AX.aload_n dL_law_935 1 rfl rfl ?_
  refine AX.aload_n dL_law_936 0 rfl rfl ?_
  refine AX.iload_n dL_law_937 3 rfl rfl ?_
  refine AX.iconst dL_law_938 ic_1 ?_
  refine AX.iadd dL_law_939 ?_
  refine AX.ialdX dL_law_940 hb1 ?_
  refine AX.callVw (r := 0) (As := [.int (G.2.2.2.2 (l3 + 1).toNatClampNeg)]) (rest := []) (w := some (.int z1.1)) (st' := [.int z1.1]) dL_law_941 mlRL_127 ylX10_from yvX10_from rfl rfl rfl (Nat.le_of_ble_eq_true rfl) ⟨Nat.le_of_ble_eq_true rfl, Nat.le_of_ble_eq_true rfl⟩ (xX10_from (G.2.2.2.2 (l3 + 1).toNatClampNeg) σ e1) rfl ?_
  refine AX.aload_n dL_law_944 2 rfl rfl ?_
  refine AX.aload_n dL_law_945 0 rfl rfl ?_
  refine AX.iload_n dL_law_946 3 rfl rfl ?_
  refine AX.iconst dL_law_947 ic_1 ?_
  refine AX.iadd dL_law_948 ?_
  refine AX.ialdX dL_law_949 hb1 ?_
  refine AX.callVw (r := 44) (As := [.int (G.2.2.2.2 (l3 + 1).toNatClampNeg)]) (rest := [.int z1.1]) (w := some (.int z2.1)) (st' := [.int z2.1, .int z1.1]) dL_law_950 mlRL_130 ylX11_from yvX11_from rfl rfl rfl (Nat.le_of_ble_eq_true rfl) ⟨Nat.le_of_ble_eq_true rfl, Nat.le_of_ble_eq_true rfl⟩ (xX11_from (G.2.2.2.2 (l3 + 1).toNatClampNeg) z1.2 e2) rfl ?_
  exact AX.icmp_eq (tgt := 1335) dL_law_953 rfl (fun _ => hback _ hi2) (fun c9 => absurd ev c9)
def ls_said (Inv : St → Prop) : Prop := ∀ (σ : St) (a1 : Int32), Inv σ → ∃ z1 z2, fX10_said a1 σ = some z1 ∧ fX11_said a1 z1.2 = some z2 ∧ z1.1 = z2.1 ∧ Inv z2.2
theorem lawc_said {G : ag_G} {Inv : St → Prop} {Q : Option Value → St → Prop} (hstep : ls_said Inv) (l3 : Int32) (σ : St) (hinv : Inv σ) (hb1 : inb (l3 + 1) G.2.2.2.1 = true) (hback : ∀ σ2, Inv σ2 → AX G mL_law 10 237 1335 [(0, .ref (G.2.2.1 1002)), (1, .ref (G.2.2.1 0)), (2, .ref (G.2.2.1 44)), (3, .int l3)] [] σ2 Q) : AX G mL_law 10 237 958 [(0, .ref (G.2.2.1 1002)), (1, .ref (G.2.2.1 0)), (2, .ref (G.2.2.1 44)), (3, .int l3)] [] σ Q := by
  obtain ⟨z1, z2, e1, e2, ev, hi2⟩ := hstep σ (G.2.2.2.2 (l3 + 1).toNatClampNeg) hinv
  refine AX.aload_n dL_law_958 1 rfl rfl ?_
  refine AX.aload_n dL_law_959 0 rfl rfl ?_
  refine AX.iload_n dL_law_960 3 rfl rfl ?_
  refine AX.iconst dL_law_961 ic_1 ?_
  refine AX.iadd dL_law_962 ?_
  refine AX.ialdX dL_law_963 hb1 ?_
  refine AX.callVw (r := 0) (As := [.int (G.2.2.2.2 (l3 + 1).toNatClampNeg)]) (rest := []) (w := some (.int z1.1)) (st' := [.int z1.1]) dL_law_964 mlRL_131 ylX10_said yvX10_said rfl rfl rfl (Nat.le_of_ble_eq_true rfl) ⟨Nat.le_of_ble_eq_true rfl, Nat.le_of_ble_eq_true rfl⟩ (xX10_said (G.2.2.2.2 (l3 + 1).toNatClampNeg) σ e1) rfl ?_
  refine AX.aload_n dL_law_967 2 rfl rfl ?_
  refine AX.aload_n dL_law_968 0 rfl rfl ?_
  refine AX.iload_n dL_law_969 3 rfl rfl ?_
  refine AX.iconst dL_law_970 ic_1 ?_
  refine AX.iadd dL_law_971 ?_
  refine AX.ialdX dL_law_972 hb1 ?_
  refine AX.callVw (r := 44) (As := [.int (G.2.2.2.2 (l3 + 1).toNatClampNeg)]) (rest := [.int z1.1]) (w := some (.int z2.1)) (st' := [.int z2.1, .int z1.1]) dL_law_973 mlRL_134 ylX11_said yvX11_said rfl rfl rfl (Nat.le_of_ble_eq_true rfl) ⟨Nat.le_of_ble_eq_true rfl, Nat.le_of_ble_eq_true rfl⟩ (xX11_said (G.2.2.2.2 (l3 + 1).toNatClampNeg) z1.2 e2) rfl ?_
  exact AX.icmp_eq (tgt := 1335) dL_law_976 rfl (fun _ => hback _ hi2) (fun c9 => absurd ev c9)
def ls_wrong (Inv : St → Prop) : Prop := ∀ (σ : St) (a1 : Int32), Inv σ → ∃ z1 z2, fX10_wrong a1 σ = some z1 ∧ fX11_wrong a1 σ = some z2 ∧ z1 = z2 ∧ Inv σ
theorem lawc_wrong {G : ag_G} {Inv : St → Prop} {Q : Option Value → St → Prop} (hstep : ls_wrong Inv) (l3 : Int32) (σ : St) (hinv : Inv σ) (hb1 : inb (l3 + 1) G.2.2.2.1 = true) (hback : ∀ σ2, Inv σ2 → AX G mL_law 10 237 1335 [(0, .ref (G.2.2.1 1002)), (1, .ref (G.2.2.1 0)), (2, .ref (G.2.2.1 44)), (3, .int l3)] [] σ2 Q) : AX G mL_law 10 237 981 [(0, .ref (G.2.2.1 1002)), (1, .ref (G.2.2.1 0)), (2, .ref (G.2.2.1 44)), (3, .int l3)] [] σ Q := by
  obtain ⟨z1, z2, e1, e2, ev, hi2⟩ := hstep σ (G.2.2.2.2 (l3 + 1).toNatClampNeg) hinv
  refine AX.aload_n dL_law_981 1 rfl rfl ?_
  refine AX.aload_n dL_law_982 0 rfl rfl ?_
  refine AX.iload_n dL_law_983 3 rfl rfl ?_
  refine AX.iconst dL_law_984 ic_1 ?_
  refine AX.iadd dL_law_985 ?_
  refine AX.ialdX dL_law_986 hb1 ?_
  refine AX.callVw (r := 0) (As := [.int (G.2.2.2.2 (l3 + 1).toNatClampNeg)]) (rest := []) (w := some (.int z1)) (st' := [.int z1]) dL_law_987 mlRL_135 ylX10_wrong yvX10_wrong rfl rfl rfl (Nat.le_of_ble_eq_true rfl) ⟨Nat.le_of_ble_eq_true rfl, Nat.le_of_ble_eq_true rfl⟩ (xX10_wrong (G.2.2.2.2 (l3 + 1).toNatClampNeg) σ e1) rfl ?_
  refine AX.aload_n dL_law_990 2 rfl rfl ?_
  refine AX.aload_n dL_law_991 0 rfl rfl ?_
  refine AX.iload_n dL_law_992 3 rfl rfl ?_
  refine AX.iconst dL_law_993 ic_1 ?_
  refine AX.iadd dL_law_994 ?_
  refine AX.ialdX dL_law_995 hb1 ?_
  refine AX.callVw (r := 44) (As := [.int (G.2.2.2.2 (l3 + 1).toNatClampNeg)]) (rest := [.int z1]) (w := some (.int z2)) (st' := [.int z2, .int z1]) dL_law_996 mlRL_138 ylX11_wrong yvX11_wrong rfl rfl rfl (Nat.le_of_ble_eq_true rfl) ⟨Nat.le_of_ble_eq_true rfl, Nat.le_of_ble_eq_true rfl⟩ (xX11_wrong (G.2.2.2.2 (l3 + 1).toNatClampNeg) σ e2) rfl ?_
  exact AX.icmp_eq (tgt := 1335) dL_law_999 rfl (fun _ => hback _ hi2) (fun c9 => absurd ev c9)
def ls_blame (Inv : St → Prop) : Prop := ∀ (σ : St), Inv σ → ∃ z1 z2, fX10_blame σ = some z1 ∧ fX11_blame σ = some z2 ∧ z1 = z2.1 ∧ Inv z2.2
theorem lawc_blame {G : ag_G} {Inv : St → Prop} {Q : Option Value → St → Prop} (hstep : ls_blame Inv) (l3 : Int32) (σ : St) (hinv : Inv σ)  (hback : ∀ σ2, Inv σ2 → AX G mL_law 10 237 1335 [(0, .ref (G.2.2.1 1002)), (1, .ref (G.2.2.1 0)), (2, .ref (G.2.2.1 44)), (3, .int l3)] [] σ2 Q) : AX G mL_law 10 237 1004 [(0, .ref (G.2.2.1 1002)), (1, .ref (G.2.2.1 0)), (2, .ref (G.2.2.1 44)), (3, .int l3)] [] σ Q := by
  obtain ⟨z1, z2, e1, e2, ev, hi2⟩ := hstep σ hinv
  refine AX.aload_n dL_law_1004 1 rfl rfl ?_
  refine AX.callVw (r := 0) (As := []) (rest := []) (w := some (.int z1)) (st' := [.int z1]) dL_law_1005 mlRL_139 ylX10_blame yvX10_blame rfl rfl rfl (Nat.le_of_ble_eq_true rfl) ⟨Nat.le_of_ble_eq_true rfl, Nat.le_of_ble_eq_true rfl⟩ (xX10_blame  σ e1) rfl ?_
  refine AX.aload_n dL_law_1008 2 rfl rfl ?_
  refine AX.callVw (r := 44) (As := []) (rest := [.int z1]) (w := some (.int z2.1)) (st' := [.int z2.1, .int z1]) dL_law_1009 mlRL_142 ylX11_blame yvX11_blame rfl rfl rfl (Nat.le_of_ble_eq_true rfl) ⟨Nat.le_of_ble_eq_true rfl, Nat.le_of_ble_eq_true rfl⟩ (xX11_blame  σ e2) rfl ?_
  exact AX.icmp_eq (tgt := 1335) dL_law_1012 rfl (fun _ => hback _ hi2) (fun c9 => absurd ev c9)
def ls_night (Inv : St → Prop) : Prop := ∀ (σ : St) (a1 a2 : Int32), Inv σ → ∃ z1 z2, fX10_night a1 a2 σ = some z1 ∧ fX11_night a1 a2 z1.2 = some z2 ∧ z1.1 = z2.1 ∧ Inv z2.2
theorem lawc_night {G : ag_G} {Inv : St → Prop} {Q : Option Value → St → Prop} (hstep : ls_night Inv) (l3 : Int32) (σ : St) (hinv : Inv σ) (hb1 : inb (l3 + 1) G.2.2.2.1 = true) (hb2 : inb (l3 + 2) G.2.2.2.1 = true) (hback : ∀ σ2, Inv σ2 → AX G mL_law 10 237 1335 [(0, .ref (G.2.2.1 1002)), (1, .ref (G.2.2.1 0)), (2, .ref (G.2.2.1 44)), (3, .int l3)] [] σ2 Q) : AX G mL_law 10 237 1017 [(0, .ref (G.2.2.1 1002)), (1, .ref (G.2.2.1 0)), (2, .ref (G.2.2.1 44)), (3, .int l3)] [] σ Q := by
  obtain ⟨z1, z2, e1, e2, ev, hi2⟩ := hstep σ (G.2.2.2.2 (l3 + 1).toNatClampNeg) (G.2.2.2.2 (l3 + 2).toNatClampNeg) hinv
  refine AX.aload_n dL_law_1017 1 rfl rfl ?_
  refine AX.aload_n dL_law_1018 0 rfl rfl ?_
  refine AX.iload_n dL_law_1019 3 rfl rfl ?_
  refine AX.iconst dL_law_1020 ic_1 ?_
  refine AX.iadd dL_law_1021 ?_
  refine AX.ialdX dL_law_1022 hb1 ?_
  refine AX.aload_n dL_law_1023 0 rfl rfl ?_
  refine AX.iload_n dL_law_1024 3 rfl rfl ?_
  refine AX.iconst dL_law_1025 ic_2 ?_
  refine AX.iadd dL_law_1026 ?_
  refine AX.ialdX dL_law_1027 hb2 ?_
  refine AX.callVw (r := 0) (As := [.int (G.2.2.2.2 (l3 + 1).toNatClampNeg), .int (G.2.2.2.2 (l3 + 2).toNatClampNeg)]) (rest := []) (w := some (.int z1.1)) (st' := [.int z1.1]) dL_law_1028 mlRL_143 ylX10_night yvX10_night rfl rfl rfl (Nat.le_of_ble_eq_true rfl) ⟨Nat.le_of_ble_eq_true rfl, Nat.le_of_ble_eq_true rfl⟩ (xX10_night (G.2.2.2.2 (l3 + 1).toNatClampNeg) (G.2.2.2.2 (l3 + 2).toNatClampNeg) σ e1) rfl ?_
  refine AX.aload_n dL_law_1031 2 rfl rfl ?_
  refine AX.aload_n dL_law_1032 0 rfl rfl ?_
  refine AX.iload_n dL_law_1033 3 rfl rfl ?_
  refine AX.iconst dL_law_1034 ic_1 ?_
  refine AX.iadd dL_law_1035 ?_
  refine AX.ialdX dL_law_1036 hb1 ?_
  refine AX.aload_n dL_law_1037 0 rfl rfl ?_
  refine AX.iload_n dL_law_1038 3 rfl rfl ?_
  refine AX.iconst dL_law_1039 ic_2 ?_
  refine AX.iadd dL_law_1040 ?_
  refine AX.ialdX dL_law_1041 hb2 ?_
  refine AX.callVw (r := 44) (As := [.int (G.2.2.2.2 (l3 + 1).toNatClampNeg), .int (G.2.2.2.2 (l3 + 2).toNatClampNeg)]) (rest := [.int z1.1]) (w := some (.int z2.1)) (st' := [.int z2.1, .int z1.1]) dL_law_1042 mlRL_146 ylX11_night yvX11_night rfl rfl rfl (Nat.le_of_ble_eq_true rfl) ⟨Nat.le_of_ble_eq_true rfl, Nat.le_of_ble_eq_true rfl⟩ (xX11_night (G.2.2.2.2 (l3 + 1).toNatClampNeg) (G.2.2.2.2 (l3 + 2).toNatClampNeg) z1.2 e2) rfl ?_
  exact AX.icmp_eq (tgt := 1335) dL_law_1045 rfl (fun _ => hback _ hi2) (fun c9 => absurd ev c9)
def ls_sheet (Inv : St → Prop) : Prop := ∀ (σ : St) (a1 a2 a3 : Int32), Inv σ → ∃ z1 z2, fX10_sheet a1 a2 a3 σ = some z1 ∧ fX11_sheet a1 a2 a3 z1.2 = some z2 ∧ z1.1 = z2.1 ∧ Inv z2.2
theorem lawc_sheet {G : ag_G} {Inv : St → Prop} {Q : Option Value → St → Prop} (hstep : ls_sheet Inv) (l3 : Int32) (σ : St) (hinv : Inv σ) (hb1 : inb (l3 + 1) G.2.2.2.1 = true) (hb2 : inb (l3 + 2) G.2.2.2.1 = true) (hb3 : inb (l3 + 3) G.2.2.2.1 = true) (hback : ∀ σ2, Inv σ2 → AX G mL_law 10 237 1335 [(0, .ref (G.2.2.1 1002)), (1, .ref (G.2.2.1 0)), (2, .ref (G.2.2.1 44)), (3, .int l3)] [] σ2 Q) : AX G mL_law 10 237 1050 [(0, .ref (G.2.2.1 1002)), (1, .ref (G.2.2.1 0)), (2, .ref (G.2.2.1 44)), (3, .int l3)] [] σ Q := by
  obtain ⟨z1, z2, e1, e2, ev, hi2⟩ := hstep σ (G.2.2.2.2 (l3 + 1).toNatClampNeg) (G.2.2.2.2 (l3 + 2).toNatClampNeg) (G.2.2.2.2 (l3 + 3).toNatClampNeg) hinv
  refine AX.aload_n dL_law_1050 1 rfl rfl ?_
  refine AX.aload_n dL_law_1051 0 rfl rfl ?_
  refine AX.iload_n dL_law_1052 3 rfl rfl ?_
  refine AX.iconst dL_law_1053 ic_1 ?_
  refine AX.iadd dL_law_1054 ?_
  refine AX.ialdX dL_law_1055 hb1 ?_
  refine AX.aload_n dL_law_1056 0 rfl rfl ?_
  refine AX.iload_n dL_law_1057 3 rfl rfl ?_
  refine AX.iconst dL_law_1058 ic_2 ?_
  refine AX.iadd dL_law_1059 ?_
  refine AX.ialdX dL_law_1060 hb2 ?_
  refine AX.aload_n dL_law_1061 0 rfl rfl ?_
  refine AX.iload_n dL_law_1062 3 rfl rfl ?_
  refine AX.iconst dL_law_1063 ic_3 ?_
  refine AX.iadd dL_law_1064 ?_
  refine AX.ialdX dL_law_1065 hb3 ?_
  refine AX.callVw (r := 0) (As := [.int (G.2.2.2.2 (l3 + 1).toNatClampNeg), .int (G.2.2.2.2 (l3 + 2).toNatClampNeg), .int (G.2.2.2.2 (l3 + 3).toNatClampNeg)]) (rest := []) (w := some (.int z1.1)) (st' := [.int z1.1]) dL_law_1066 mlRL_147 ylX10_sheet yvX10_sheet rfl rfl rfl (Nat.le_of_ble_eq_true rfl) ⟨Nat.le_of_ble_eq_true rfl, Nat.le_of_ble_eq_true rfl⟩ (xX10_sheet (G.2.2.2.2 (l3 + 1).toNatClampNeg) (G.2.2.2.2 (l3 + 2).toNatClampNeg) (G.2.2.2.2 (l3 + 3).toNatClampNeg) σ e1) rfl ?_
  refine AX.aload_n dL_law_1069 2 rfl rfl ?_
  refine AX.aload_n dL_law_1070 0 rfl rfl ?_
  refine AX.iload_n dL_law_1071 3 rfl rfl ?_
  refine AX.iconst dL_law_1072 ic_1 ?_
  refine AX.iadd dL_law_1073 ?_
  refine AX.ialdX dL_law_1074 hb1 ?_
  refine AX.aload_n dL_law_1075 0 rfl rfl ?_
  refine AX.iload_n dL_law_1076 3 rfl rfl ?_
  refine AX.iconst dL_law_1077 ic_2 ?_
  refine AX.iadd dL_law_1078 ?_
  refine AX.ialdX dL_law_1079 hb2 ?_
  refine AX.aload_n dL_law_1080 0 rfl rfl ?_
  refine AX.iload_n dL_law_1081 3 rfl rfl ?_
  refine AX.iconst dL_law_1082 ic_3 ?_
  refine AX.iadd dL_law_1083 ?_
  refine AX.ialdX dL_law_1084 hb3 ?_
  refine AX.callVw (r := 44) (As := [.int (G.2.2.2.2 (l3 + 1).toNatClampNeg), .int (G.2.2.2.2 (l3 + 2).toNatClampNeg), .int (G.2.2.2.2 (l3 + 3).toNatClampNeg)]) (rest := [.int z1.1]) (w := some (.int z2.1)) (st' := [.int z2.1, .int z1.1]) dL_law_1085 mlRL_150 ylX11_sheet yvX11_sheet rfl rfl rfl (Nat.le_of_ble_eq_true rfl) ⟨Nat.le_of_ble_eq_true rfl, Nat.le_of_ble_eq_true rfl⟩ (xX11_sheet (G.2.2.2.2 (l3 + 1).toNatClampNeg) (G.2.2.2.2 (l3 + 2).toNatClampNeg) (G.2.2.2.2 (l3 + 3).toNatClampNeg) z1.2 e2) rfl ?_
  exact AX.icmp_eq (tgt := 1335) dL_law_1088 rfl (fun _ => hback _ hi2) (fun c9 => absurd ev c9)
def ls_lose (Inv : St → Prop) : Prop := ∀ (σ : St) (a1 : Int32), Inv σ → ∃ z1 z2, fX10_lose a1 σ = some z1 ∧ fX11_lose a1 z1.2 = some z2 ∧ z1.1 = z2.1 ∧ Inv z2.2
theorem lawc_lose {G : ag_G} {Inv : St → Prop} {Q : Option Value → St → Prop} (hstep : ls_lose Inv) (l3 : Int32) (σ : St) (hinv : Inv σ) (hb1 : inb (l3 + 1) G.2.2.2.1 = true) (hback : ∀ σ2, Inv σ2 → AX G mL_law 10 237 1335 [(0, .ref (G.2.2.1 1002)), (1, .ref (G.2.2.1 0)), (2, .ref (G.2.2.1 44)), (3, .int l3)] [] σ2 Q) : AX G mL_law 10 237 1093 [(0, .ref (G.2.2.1 1002)), (1, .ref (G.2.2.1 0)), (2, .ref (G.2.2.1 44)), (3, .int l3)] [] σ Q := by
  obtain ⟨z1, z2, e1, e2, ev, hi2⟩ := hstep σ (G.2.2.2.2 (l3 + 1).toNatClampNeg) hinv
  refine AX.aload_n dL_law_1093 1 rfl rfl ?_
  refine AX.aload_n dL_law_1094 0 rfl rfl ?_
  refine AX.iload_n dL_law_1095 3 rfl rfl ?_
  refine AX.iconst dL_law_1096 ic_1 ?_
  refine AX.iadd dL_law_1097 ?_
  refine AX.ialdX dL_law_1098 hb1 ?_
  refine AX.callVw (r := 0) (As := [.int (G.2.2.2.2 (l3 + 1).toNatClampNeg)]) (rest := []) (w := some (.int z1.1)) (st' := [.int z1.1]) dL_law_1099 mlRL_151 ylX10_lose yvX10_lose rfl rfl rfl (Nat.le_of_ble_eq_true rfl) ⟨Nat.le_of_ble_eq_true rfl, Nat.le_of_ble_eq_true rfl⟩ (xX10_lose (G.2.2.2.2 (l3 + 1).toNatClampNeg) σ e1) rfl ?_
  refine AX.aload_n dL_law_1102 2 rfl rfl ?_
  refine AX.aload_n dL_law_1103 0 rfl rfl ?_
  refine AX.iload_n dL_law_1104 3 rfl rfl ?_
  refine AX.iconst dL_law_1105 ic_1 ?_
  refine AX.iadd dL_law_1106 ?_
  refine AX.ialdX dL_law_1107 hb1 ?_
  refine AX.callVw (r := 44) (As := [.int (G.2.2.2.2 (l3 + 1).toNatClampNeg)]) (rest := [.int z1.1]) (w := some (.int z2.1)) (st' := [.int z2.1, .int z1.1]) dL_law_1108 mlRL_154 ylX11_lose yvX11_lose rfl rfl rfl (Nat.le_of_ble_eq_true rfl) ⟨Nat.le_of_ble_eq_true rfl, Nat.le_of_ble_eq_true rfl⟩ (xX11_lose (G.2.2.2.2 (l3 + 1).toNatClampNeg) z1.2 e2) rfl ?_
  exact AX.icmp_eq (tgt := 1335) dL_law_1111 rfl (fun _ => hback _ hi2) (fun c9 => absurd ev c9)
def ls_put (Inv : St → Prop) : Prop := ∀ (σ : St) (a1 a2 a3 a4 : Int32), Inv σ → ∃ z1 z2, fX10_put a1 a2 a3 a4 σ = some z1 ∧ fX11_put a1 a2 a3 a4 z1.2 = some z2 ∧ z1.1 = z2.1 ∧ Inv z2.2
theorem lawc_put {G : ag_G} {Inv : St → Prop} {Q : Option Value → St → Prop} (hstep : ls_put Inv) (l3 : Int32) (σ : St) (hinv : Inv σ) (hb1 : inb (l3 + 1) G.2.2.2.1 = true) (hb2 : inb (l3 + 2) G.2.2.2.1 = true) (hb3 : inb (l3 + 3) G.2.2.2.1 = true) (hb4 : inb (l3 + 4) G.2.2.2.1 = true) (hback : ∀ σ2, Inv σ2 → AX G mL_law 10 237 1335 [(0, .ref (G.2.2.1 1002)), (1, .ref (G.2.2.1 0)), (2, .ref (G.2.2.1 44)), (3, .int l3)] [] σ2 Q) : AX G mL_law 10 237 1116 [(0, .ref (G.2.2.1 1002)), (1, .ref (G.2.2.1 0)), (2, .ref (G.2.2.1 44)), (3, .int l3)] [] σ Q := by
  obtain ⟨z1, z2, e1, e2, ev, hi2⟩ := hstep σ (G.2.2.2.2 (l3 + 1).toNatClampNeg) (G.2.2.2.2 (l3 + 2).toNatClampNeg) (G.2.2.2.2 (l3 + 3).toNatClampNeg) (G.2.2.2.2 (l3 + 4).toNatClampNeg) hinv
  refine AX.aload_n dL_law_1116 1 rfl rfl ?_
  refine AX.aload_n dL_law_1117 0 rfl rfl ?_
  refine AX.iload_n dL_law_1118 3 rfl rfl ?_
  refine AX.iconst dL_law_1119 ic_1 ?_
  refine AX.iadd dL_law_1120 ?_
  refine AX.ialdX dL_law_1121 hb1 ?_
  refine AX.aload_n dL_law_1122 0 rfl rfl ?_
  refine AX.iload_n dL_law_1123 3 rfl rfl ?_
  refine AX.iconst dL_law_1124 ic_2 ?_
  refine AX.iadd dL_law_1125 ?_
  refine AX.ialdX dL_law_1126 hb2 ?_
  refine AX.aload_n dL_law_1127 0 rfl rfl ?_
  refine AX.iload_n dL_law_1128 3 rfl rfl ?_
  refine AX.iconst dL_law_1129 ic_3 ?_
  refine AX.iadd dL_law_1130 ?_
  refine AX.ialdX dL_law_1131 hb3 ?_
  refine AX.aload_n dL_law_1132 0 rfl rfl ?_
  refine AX.iload_n dL_law_1133 3 rfl rfl ?_
  refine AX.iconst dL_law_1134 ic_4 ?_
  refine AX.iadd dL_law_1135 ?_
  refine AX.ialdX dL_law_1136 hb4 ?_
  refine AX.callVw (r := 0) (As := [.int (G.2.2.2.2 (l3 + 1).toNatClampNeg), .int (G.2.2.2.2 (l3 + 2).toNatClampNeg), .int (G.2.2.2.2 (l3 + 3).toNatClampNeg), .int (G.2.2.2.2 (l3 + 4).toNatClampNeg)]) (rest := []) (w := some (.int z1.1)) (st' := [.int z1.1]) dL_law_1137 mlRL_155 ylX10_put yvX10_put rfl rfl rfl (Nat.le_of_ble_eq_true rfl) ⟨Nat.le_of_ble_eq_true rfl, Nat.le_of_ble_eq_true rfl⟩ (xX10_put (G.2.2.2.2 (l3 + 1).toNatClampNeg) (G.2.2.2.2 (l3 + 2).toNatClampNeg) (G.2.2.2.2 (l3 + 3).toNatClampNeg) (G.2.2.2.2 (l3 + 4).toNatClampNeg) σ e1) rfl ?_
  refine AX.aload_n dL_law_1140 2 rfl rfl ?_
  refine AX.aload_n dL_law_1141 0 rfl rfl ?_
  refine AX.iload_n dL_law_1142 3 rfl rfl ?_
  refine AX.iconst dL_law_1143 ic_1 ?_
  refine AX.iadd dL_law_1144 ?_
  refine AX.ialdX dL_law_1145 hb1 ?_
  refine AX.aload_n dL_law_1146 0 rfl rfl ?_
  refine AX.iload_n dL_law_1147 3 rfl rfl ?_
  refine AX.iconst dL_law_1148 ic_2 ?_
  refine AX.iadd dL_law_1149 ?_
  refine AX.ialdX dL_law_1150 hb2 ?_
  refine AX.aload_n dL_law_1151 0 rfl rfl ?_
  refine AX.iload_n dL_law_1152 3 rfl rfl ?_
  refine AX.iconst dL_law_1153 ic_3 ?_
  refine AX.iadd dL_law_1154 ?_
  refine AX.ialdX dL_law_1155 hb3 ?_
  refine AX.aload_n dL_law_1156 0 rfl rfl ?_
  refine AX.iload_n dL_law_1157 3 rfl rfl ?_
  refine AX.iconst dL_law_1158 ic_4 ?_
  refine AX.iadd dL_law_1159 ?_
  refine AX.ialdX dL_law_1160 hb4 ?_
  refine AX.callVw (r := 44) (As := [.int (G.2.2.2.2 (l3 + 1).toNatClampNeg), .int (G.2.2.2.2 (l3 + 2).toNatClampNeg), .int (G.2.2.2.2 (l3 + 3).toNatClampNeg), .int (G.2.2.2.2 (l3 + 4).toNatClampNeg)]) (rest := [.int z1.1]) (w := some (.int z2.1)) (st' := [.int z2.1, .int z1.1]) dL_law_1161 mlRL_159 ylX11_put yvX11_put rfl rfl rfl (Nat.le_of_ble_eq_true rfl) ⟨Nat.le_of_ble_eq_true rfl, Nat.le_of_ble_eq_true rfl⟩ (xX11_put (G.2.2.2.2 (l3 + 1).toNatClampNeg) (G.2.2.2.2 (l3 + 2).toNatClampNeg) (G.2.2.2.2 (l3 + 3).toNatClampNeg) (G.2.2.2.2 (l3 + 4).toNatClampNeg) z1.2 e2) rfl ?_
  exact AX.icmp_eq (tgt := 1335) dL_law_1164 rfl (fun _ => hback _ hi2) (fun c9 => absurd ev c9)
def ls_get (Inv : St → Prop) : Prop := ∀ (σ : St) (a1 a2 a3 : Int32), Inv σ → ∃ z1 z2, fX10_get a1 a2 a3 σ = some z1 ∧ fX11_get a1 a2 a3 z1.2 = some z2 ∧ z1.1 = z2.1 ∧ Inv z2.2
theorem lawc_get {G : ag_G} {Inv : St → Prop} {Q : Option Value → St → Prop} (hstep : ls_get Inv) (l3 : Int32) (σ : St) (hinv : Inv σ) (hb1 : inb (l3 + 1) G.2.2.2.1 = true) (hb2 : inb (l3 + 2) G.2.2.2.1 = true) (hb3 : inb (l3 + 3) G.2.2.2.1 = true) (hback : ∀ σ2, Inv σ2 → AX G mL_law 10 237 1335 [(0, .ref (G.2.2.1 1002)), (1, .ref (G.2.2.1 0)), (2, .ref (G.2.2.1 44)), (3, .int l3)] [] σ2 Q) : AX G mL_law 10 237 1169 [(0, .ref (G.2.2.1 1002)), (1, .ref (G.2.2.1 0)), (2, .ref (G.2.2.1 44)), (3, .int l3)] [] σ Q := by
  obtain ⟨z1, z2, e1, e2, ev, hi2⟩ := hstep σ (G.2.2.2.2 (l3 + 1).toNatClampNeg) (G.2.2.2.2 (l3 + 2).toNatClampNeg) (G.2.2.2.2 (l3 + 3).toNatClampNeg) hinv
  refine AX.aload_n dL_law_1169 1 rfl rfl ?_
  refine AX.aload_n dL_law_1170 0 rfl rfl ?_
  refine AX.iload_n dL_law_1171 3 rfl rfl ?_
  refine AX.iconst dL_law_1172 ic_1 ?_
  refine AX.iadd dL_law_1173 ?_
  refine AX.ialdX dL_law_1174 hb1 ?_
  refine AX.aload_n dL_law_1175 0 rfl rfl ?_
  refine AX.iload_n dL_law_1176 3 rfl rfl ?_
  refine AX.iconst dL_law_1177 ic_2 ?_
  refine AX.iadd dL_law_1178 ?_
  refine AX.ialdX dL_law_1179 hb2 ?_
  refine AX.aload_n dL_law_1180 0 rfl rfl ?_
  refine AX.iload_n dL_law_1181 3 rfl rfl ?_
  refine AX.iconst dL_law_1182 ic_3 ?_
  refine AX.iadd dL_law_1183 ?_
  refine AX.ialdX dL_law_1184 hb3 ?_
  refine AX.callVw (r := 0) (As := [.int (G.2.2.2.2 (l3 + 1).toNatClampNeg), .int (G.2.2.2.2 (l3 + 2).toNatClampNeg), .int (G.2.2.2.2 (l3 + 3).toNatClampNeg)]) (rest := []) (w := some (.int z1.1)) (st' := [.int z1.1]) dL_law_1185 mlRL_160 ylX10_get yvX10_get rfl rfl rfl (Nat.le_of_ble_eq_true rfl) ⟨Nat.le_of_ble_eq_true rfl, Nat.le_of_ble_eq_true rfl⟩ (xX10_get (G.2.2.2.2 (l3 + 1).toNatClampNeg) (G.2.2.2.2 (l3 + 2).toNatClampNeg) (G.2.2.2.2 (l3 + 3).toNatClampNeg) σ e1) rfl ?_
  refine AX.aload_n dL_law_1188 2 rfl rfl ?_
  refine AX.aload_n dL_law_1189 0 rfl rfl ?_
  refine AX.iload_n dL_law_1190 3 rfl rfl ?_
  refine AX.iconst dL_law_1191 ic_1 ?_
  refine AX.iadd dL_law_1192 ?_
  refine AX.ialdX dL_law_1193 hb1 ?_
  refine AX.aload_n dL_law_1194 0 rfl rfl ?_
  refine AX.iload_n dL_law_1195 3 rfl rfl ?_
  refine AX.iconst dL_law_1196 ic_2 ?_
  refine AX.iadd dL_law_1197 ?_
  refine AX.ialdX dL_law_1198 hb2 ?_
  refine AX.aload_n dL_law_1199 0 rfl rfl ?_
  refine AX.iload_n dL_law_1200 3 rfl rfl ?_
  refine AX.iconst dL_law_1201 ic_3 ?_
  refine AX.iadd dL_law_1202 ?_
  refine AX.ialdX dL_law_1203 hb3 ?_
  refine AX.callVw (r := 44) (As := [.int (G.2.2.2.2 (l3 + 1).toNatClampNeg), .int (G.2.2.2.2 (l3 + 2).toNatClampNeg), .int (G.2.2.2.2 (l3 + 3).toNatClampNeg)]) (rest := [.int z1.1]) (w := some (.int z2.1)) (st' := [.int z2.1, .int z1.1]) dL_law_1204 mlRL_163 ylX11_get yvX11_get rfl rfl rfl (Nat.le_of_ble_eq_true rfl) ⟨Nat.le_of_ble_eq_true rfl, Nat.le_of_ble_eq_true rfl⟩ (xX11_get (G.2.2.2.2 (l3 + 1).toNatClampNeg) (G.2.2.2.2 (l3 + 2).toNatClampNeg) (G.2.2.2.2 (l3 + 3).toNatClampNeg) z1.2 e2) rfl ?_
  exact AX.icmp_eq (tgt := 1335) dL_law_1207 rfl (fun _ => hback _ hi2) (fun c9 => absurd ev c9)
def ls_copy (Inv : St → Prop) : Prop := ∀ (σ : St) (a1 a2 a3 a4 a5 : Int32), Inv σ → ∃ z1 z2, fX10_copy a1 a2 a3 a4 a5 σ = some z1 ∧ fX11_copy a1 a2 a3 a4 a5 z1.2 = some z2 ∧ z1.1 = z2.1 ∧ Inv z2.2
theorem lawc_copy {G : ag_G} {Inv : St → Prop} {Q : Option Value → St → Prop} (hstep : ls_copy Inv) (l3 : Int32) (σ : St) (hinv : Inv σ) (hb1 : inb (l3 + 1) G.2.2.2.1 = true) (hb2 : inb (l3 + 2) G.2.2.2.1 = true) (hb3 : inb (l3 + 3) G.2.2.2.1 = true) (hb4 : inb (l3 + 4) G.2.2.2.1 = true) (hb5 : inb (l3 + 5) G.2.2.2.1 = true) (hback : ∀ σ2, Inv σ2 → AX G mL_law 10 237 1335 [(0, .ref (G.2.2.1 1002)), (1, .ref (G.2.2.1 0)), (2, .ref (G.2.2.1 44)), (3, .int l3)] [] σ2 Q) : AX G mL_law 10 237 1212 [(0, .ref (G.2.2.1 1002)), (1, .ref (G.2.2.1 0)), (2, .ref (G.2.2.1 44)), (3, .int l3)] [] σ Q := by
  obtain ⟨z1, z2, e1, e2, ev, hi2⟩ := hstep σ (G.2.2.2.2 (l3 + 1).toNatClampNeg) (G.2.2.2.2 (l3 + 2).toNatClampNeg) (G.2.2.2.2 (l3 + 3).toNatClampNeg) (G.2.2.2.2 (l3 + 4).toNatClampNeg) (G.2.2.2.2 (l3 + 5).toNatClampNeg) hinv
  refine AX.aload_n dL_law_1212 1 rfl rfl ?_
  refine AX.aload_n dL_law_1213 0 rfl rfl ?_
  refine AX.iload_n dL_law_1214 3 rfl rfl ?_
  refine AX.iconst dL_law_1215 ic_1 ?_
  refine AX.iadd dL_law_1216 ?_
  refine AX.ialdX dL_law_1217 hb1 ?_
  refine AX.aload_n dL_law_1218 0 rfl rfl ?_
  refine AX.iload_n dL_law_1219 3 rfl rfl ?_
  refine AX.iconst dL_law_1220 ic_2 ?_
  refine AX.iadd dL_law_1221 ?_
  refine AX.ialdX dL_law_1222 hb2 ?_
  refine AX.aload_n dL_law_1223 0 rfl rfl ?_
  refine AX.iload_n dL_law_1224 3 rfl rfl ?_
  refine AX.iconst dL_law_1225 ic_3 ?_
  refine AX.iadd dL_law_1226 ?_
  refine AX.ialdX dL_law_1227 hb3 ?_
  refine AX.aload_n dL_law_1228 0 rfl rfl ?_
  refine AX.iload_n dL_law_1229 3 rfl rfl ?_
  refine AX.iconst dL_law_1230 ic_4 ?_
  refine AX.iadd dL_law_1231 ?_
  refine AX.ialdX dL_law_1232 hb4 ?_
  refine AX.aload_n dL_law_1233 0 rfl rfl ?_
  refine AX.iload_n dL_law_1234 3 rfl rfl ?_
  refine AX.iconst dL_law_1235 ic_5 ?_
  refine AX.iadd dL_law_1236 ?_
  refine AX.ialdX dL_law_1237 hb5 ?_
  refine AX.callVw (r := 0) (As := [.int (G.2.2.2.2 (l3 + 1).toNatClampNeg), .int (G.2.2.2.2 (l3 + 2).toNatClampNeg), .int (G.2.2.2.2 (l3 + 3).toNatClampNeg), .int (G.2.2.2.2 (l3 + 4).toNatClampNeg), .int (G.2.2.2.2 (l3 + 5).toNatClampNeg)]) (rest := []) (w := some (.int z1.1)) (st' := [.int z1.1]) dL_law_1238 mlRL_164 ylX10_copy yvX10_copy rfl rfl rfl (Nat.le_of_ble_eq_true rfl) ⟨Nat.le_of_ble_eq_true rfl, Nat.le_of_ble_eq_true rfl⟩ (xX10_copy (G.2.2.2.2 (l3 + 1).toNatClampNeg) (G.2.2.2.2 (l3 + 2).toNatClampNeg) (G.2.2.2.2 (l3 + 3).toNatClampNeg) (G.2.2.2.2 (l3 + 4).toNatClampNeg) (G.2.2.2.2 (l3 + 5).toNatClampNeg) σ e1) rfl ?_
  refine AX.aload_n dL_law_1241 2 rfl rfl ?_
  refine AX.aload_n dL_law_1242 0 rfl rfl ?_
  refine AX.iload_n dL_law_1243 3 rfl rfl ?_
  refine AX.iconst dL_law_1244 ic_1 ?_
  refine AX.iadd dL_law_1245 ?_
  refine AX.ialdX dL_law_1246 hb1 ?_
  refine AX.aload_n dL_law_1247 0 rfl rfl ?_
  refine AX.iload_n dL_law_1248 3 rfl rfl ?_
  refine AX.iconst dL_law_1249 ic_2 ?_
  refine AX.iadd dL_law_1250 ?_
  refine AX.ialdX dL_law_1251 hb2 ?_
  refine AX.aload_n dL_law_1252 0 rfl rfl ?_
  refine AX.iload_n dL_law_1253 3 rfl rfl ?_
  refine AX.iconst dL_law_1254 ic_3 ?_
  refine AX.iadd dL_law_1255 ?_
  refine AX.ialdX dL_law_1256 hb3 ?_
  refine AX.aload_n dL_law_1257 0 rfl rfl ?_
  refine AX.iload_n dL_law_1258 3 rfl rfl ?_
  refine AX.iconst dL_law_1259 ic_4 ?_
  refine AX.iadd dL_law_1260 ?_
  refine AX.ialdX dL_law_1261 hb4 ?_
  refine AX.aload_n dL_law_1262 0 rfl rfl ?_
  refine AX.iload_n dL_law_1263 3 rfl rfl ?_
  refine AX.iconst dL_law_1264 ic_5 ?_
  refine AX.iadd dL_law_1265 ?_
  refine AX.ialdX dL_law_1266 hb5 ?_
  refine AX.callVw (r := 44) (As := [.int (G.2.2.2.2 (l3 + 1).toNatClampNeg), .int (G.2.2.2.2 (l3 + 2).toNatClampNeg), .int (G.2.2.2.2 (l3 + 3).toNatClampNeg), .int (G.2.2.2.2 (l3 + 4).toNatClampNeg), .int (G.2.2.2.2 (l3 + 5).toNatClampNeg)]) (rest := [.int z1.1]) (w := some (.int z2.1)) (st' := [.int z2.1, .int z1.1]) dL_law_1267 mlRL_168 ylX11_copy yvX11_copy rfl rfl rfl (Nat.le_of_ble_eq_true rfl) ⟨Nat.le_of_ble_eq_true rfl, Nat.le_of_ble_eq_true rfl⟩ (xX11_copy (G.2.2.2.2 (l3 + 1).toNatClampNeg) (G.2.2.2.2 (l3 + 2).toNatClampNeg) (G.2.2.2.2 (l3 + 3).toNatClampNeg) (G.2.2.2.2 (l3 + 4).toNatClampNeg) (G.2.2.2.2 (l3 + 5).toNatClampNeg) z1.2 e2) rfl ?_
  exact AX.icmp_eq (tgt := 1335) dL_law_1270 rfl (fun _ => hback _ hi2) (fun c9 => absurd ev c9)
def ls_tell (Inv : St → Prop) : Prop := ∀ (σ : St) (a1 : Int32), Inv σ → ∃ z1 z2, fX10_tell a1 σ = some z1 ∧ fX11_tell a1 z1.2 = some z2 ∧ z1.1 = z2.1 ∧ Inv z2.2
theorem lawc_tell {G : ag_G} {Inv : St → Prop} {Q : Option Value → St → Prop} (hstep : ls_tell Inv) (l3 : Int32) (σ : St) (hinv : Inv σ) (hb1 : inb (l3 + 1) G.2.2.2.1 = true) (hback : ∀ σ2, Inv σ2 → AX G mL_law 10 237 1335 [(0, .ref (G.2.2.1 1002)), (1, .ref (G.2.2.1 0)), (2, .ref (G.2.2.1 44)), (3, .int l3)] [] σ2 Q) : AX G mL_law 10 237 1275 [(0, .ref (G.2.2.1 1002)), (1, .ref (G.2.2.1 0)), (2, .ref (G.2.2.1 44)), (3, .int l3)] [] σ Q := by
  obtain ⟨z1, z2, e1, e2, ev, hi2⟩ := hstep σ (G.2.2.2.2 (l3 + 1).toNatClampNeg) hinv
  refine AX.aload_n dL_law_1275 1 rfl rfl ?_
  refine AX.aload_n dL_law_1276 0 rfl rfl ?_
  refine AX.iload_n dL_law_1277 3 rfl rfl ?_
  refine AX.iconst dL_law_1278 ic_1 ?_
  refine AX.iadd dL_law_1279 ?_
  refine AX.ialdX dL_law_1280 hb1 ?_
  refine AX.callVw (r := 0) (As := [.int (G.2.2.2.2 (l3 + 1).toNatClampNeg)]) (rest := []) (w := some (.int z1.1)) (st' := [.int z1.1]) dL_law_1281 mlRL_169 ylX10_tell yvX10_tell rfl rfl rfl (Nat.le_of_ble_eq_true rfl) ⟨Nat.le_of_ble_eq_true rfl, Nat.le_of_ble_eq_true rfl⟩ (xX10_tell (G.2.2.2.2 (l3 + 1).toNatClampNeg) σ e1) rfl ?_
  refine AX.aload_n dL_law_1284 2 rfl rfl ?_
  refine AX.aload_n dL_law_1285 0 rfl rfl ?_
  refine AX.iload_n dL_law_1286 3 rfl rfl ?_
  refine AX.iconst dL_law_1287 ic_1 ?_
  refine AX.iadd dL_law_1288 ?_
  refine AX.ialdX dL_law_1289 hb1 ?_
  refine AX.callVw (r := 44) (As := [.int (G.2.2.2.2 (l3 + 1).toNatClampNeg)]) (rest := [.int z1.1]) (w := some (.int z2.1)) (st' := [.int z2.1, .int z1.1]) dL_law_1290 mlRL_172 ylX11_tell yvX11_tell rfl rfl rfl (Nat.le_of_ble_eq_true rfl) ⟨Nat.le_of_ble_eq_true rfl, Nat.le_of_ble_eq_true rfl⟩ (xX11_tell (G.2.2.2.2 (l3 + 1).toNatClampNeg) z1.2 e2) rfl ?_
  exact AX.icmp_eq (tgt := 1335) dL_law_1293 rfl (fun _ => hback _ hi2) (fun c9 => absurd ev c9)
def ls_count (Inv : St → Prop) : Prop := ∀ (σ : St) (a1 : Int32), Inv σ → ∃ z1 z2, fX10_count a1 σ = some z1 ∧ fX11_count a1 σ = some z2 ∧ z1 = z2.1 ∧ Inv z2.2
theorem lawc_count {G : ag_G} {Inv : St → Prop} {Q : Option Value → St → Prop} (hstep : ls_count Inv) (l3 : Int32) (σ : St) (hinv : Inv σ) (hb1 : inb (l3 + 1) G.2.2.2.1 = true) (hback : ∀ σ2, Inv σ2 → AX G mL_law 10 237 1335 [(0, .ref (G.2.2.1 1002)), (1, .ref (G.2.2.1 0)), (2, .ref (G.2.2.1 44)), (3, .int l3)] [] σ2 Q) : AX G mL_law 10 237 1298 [(0, .ref (G.2.2.1 1002)), (1, .ref (G.2.2.1 0)), (2, .ref (G.2.2.1 44)), (3, .int l3)] [] σ Q := by
  obtain ⟨z1, z2, e1, e2, ev, hi2⟩ := hstep σ (G.2.2.2.2 (l3 + 1).toNatClampNeg) hinv
  refine AX.aload_n dL_law_1298 1 rfl rfl ?_
  refine AX.aload_n dL_law_1299 0 rfl rfl ?_
  refine AX.iload_n dL_law_1300 3 rfl rfl ?_
  refine AX.iconst dL_law_1301 ic_1 ?_
  refine AX.iadd dL_law_1302 ?_
  refine AX.ialdX dL_law_1303 hb1 ?_
  refine AX.callVw (r := 0) (As := [.int (G.2.2.2.2 (l3 + 1).toNatClampNeg)]) (rest := []) (w := some (.int z1)) (st' := [.int z1]) dL_law_1304 mlRL_173 ylX10_count yvX10_count rfl rfl rfl (Nat.le_of_ble_eq_true rfl) ⟨Nat.le_of_ble_eq_true rfl, Nat.le_of_ble_eq_true rfl⟩ (xX10_count (G.2.2.2.2 (l3 + 1).toNatClampNeg) σ e1) rfl ?_
  refine AX.aload_n dL_law_1307 2 rfl rfl ?_
  refine AX.aload_n dL_law_1308 0 rfl rfl ?_
  refine AX.iload_n dL_law_1309 3 rfl rfl ?_
  refine AX.iconst dL_law_1310 ic_1 ?_
  refine AX.iadd dL_law_1311 ?_
  refine AX.ialdX dL_law_1312 hb1 ?_
  refine AX.callVw (r := 44) (As := [.int (G.2.2.2.2 (l3 + 1).toNatClampNeg)]) (rest := [.int z1]) (w := some (.int z2.1)) (st' := [.int z2.1, .int z1]) dL_law_1313 mlRL_176 ylX11_count yvX11_count rfl rfl rfl (Nat.le_of_ble_eq_true rfl) ⟨Nat.le_of_ble_eq_true rfl, Nat.le_of_ble_eq_true rfl⟩ (xX11_count (G.2.2.2.2 (l3 + 1).toNatClampNeg) σ e2) rfl ?_
  exact AX.icmp_eq (tgt := 1335) dL_law_1316 rfl (fun _ => hback _ hi2) (fun c9 => absurd ev c9)
def ls_digest (Inv : St → Prop) : Prop := ∀ (σ : St), Inv σ → ∃ z1 z2, fX10_digest σ = some z1 ∧ fX11_digest z1.2 = some z2 ∧ z1.1 = z2.1 ∧ Inv z2.2
theorem lawc_digest {G : ag_G} {Inv : St → Prop} {Q : Option Value → St → Prop} (hstep : ls_digest Inv) (l3 : Int32) (σ : St) (hinv : Inv σ)  (hback : ∀ σ2, Inv σ2 → AX G mL_law 10 237 1335 [(0, .ref (G.2.2.1 1002)), (1, .ref (G.2.2.1 0)), (2, .ref (G.2.2.1 44)), (3, .int l3)] [] σ2 Q) : AX G mL_law 10 237 1321 [(0, .ref (G.2.2.1 1002)), (1, .ref (G.2.2.1 0)), (2, .ref (G.2.2.1 44)), (3, .int l3)] [] σ Q := by
  obtain ⟨z1, z2, e1, e2, ev, hi2⟩ := hstep σ hinv
  refine AX.aload_n dL_law_1321 1 rfl rfl ?_
  refine AX.callVw (r := 0) (As := []) (rest := []) (w := some (.long z1.1)) (st' := [.long z1.1]) dL_law_1322 mlRL_177 ylX10_digest yvX10_digest rfl rfl rfl (Nat.le_of_ble_eq_true rfl) ⟨Nat.le_of_ble_eq_true rfl, Nat.le_of_ble_eq_true rfl⟩ (xX10_digest  σ e1) rfl ?_
  refine AX.aload_n dL_law_1325 2 rfl rfl ?_
  refine AX.callVw (r := 44) (As := []) (rest := [.long z1.1]) (w := some (.long z2.1)) (st' := [.long z2.1, .long z1.1]) dL_law_1326 mlRL_181 ylX11_digest yvX11_digest rfl rfl rfl (Nat.le_of_ble_eq_true rfl) ⟨Nat.le_of_ble_eq_true rfl, Nat.le_of_ble_eq_true rfl⟩ (xX11_digest  z1.2 e2) rfl ?_
  exact AX.lcmp_eq (tgt := 1335) dL_law_1329 dL_law_1330 rfl (fun _ => hback _ hi2) (fun c9 => absurd ev c9)
def LawS (Inv : St → Prop) : Prop := ls_type Inv ∧ ls_wipe Inv ∧ ls_undo Inv ∧ ls_fault Inv ∧ ls_bar Inv ∧ ls_odds Inv ∧ ls_set Inv ∧ ls_read Inv ∧ ls_hear Inv ∧ ls_shown Inv ∧ ls_forget Inv ∧ ls_where Inv ∧ ls_likeliest Inv ∧ ls_strike Inv ∧ ls_line Inv ∧ ls_slips Inv ∧ ls_safe Inv ∧ ls_write Inv ∧ ls_few Inv ∧ ls_anew Inv ∧ ls_joint Inv ∧ ls_evening Inv ∧ ls_prime Inv ∧ ls_player Inv ∧ ls_leave Inv ∧ ls_worth Inv ∧ ls_look Inv ∧ ls_from Inv ∧ ls_said Inv ∧ ls_wrong Inv ∧ ls_blame Inv ∧ ls_night Inv ∧ ls_sheet Inv ∧ ls_lose Inv ∧ ls_put Inv ∧ ls_get Inv ∧ ls_copy Inv ∧ ls_tell Inv ∧ ls_count Inv ∧ ls_digest Inv
theorem law_inb {i L : Nat} (hL : L ≤ 384) (hi : i + 6 ≤ L) (j : Nat) (hj : j < 6) : inb (nI i + nI j) L = true := by
  rw [nI_add]
  have h1 : i + j < 2 ^ 31 := by omega
  unfold inb
  rw [nI_clamp h1]
  simp only [Bool.and_eq_true, decide_eq_true_eq]
  exact ⟨nI_pos' h1, by omega⟩
set_option maxRecDepth 100000 in
theorem law_loop {G : ag_G} {Inv : St → Prop} {Q : Option Value → St → Prop} (hls : LawS Inv) (hL : G.2.2.2.1 ≤ 384) (hq : ∀ σ, Inv σ → Q (some (.int 1)) σ) : ∀ (n i : Nat) (σ : St), G.2.2.2.1 + 6 ≤ i + n → i ≤ 390 → Inv σ → AX G mL_law 10 237 18 [(0, .ref (G.2.2.1 1002)), (1, .ref (G.2.2.1 0)), (2, .ref (G.2.2.1 44)), (3, .int (nI i))] [] σ Q := by
  intro n
  induction n with
  | zero =>
    intro i σ hn hi hinv
    refine AX.iload_n dL_law_18 3 rfl rfl ?_
    refine AX.aload_n dL_law_19 0 rfl rfl ?_
    refine AX.alenX dL_law_20 ?_
    refine AX.bipush dL_law_21 bp_6 ?_
    refine AX.isub dL_law_23 ?_
    refine AX.icmp_gt (tgt := 1341) dL_law_24 rfl (fun c => ?_) (fun c => absurd ?_ c)
    · refine AX.iconst dL_law_1341 ic_1 ?_
      exact AX.ireturn dL_law_1342 rfl nb_1 (hq σ hinv)
    · rw [Int32.lt_iff_toInt_lt]
      have e : (Int32.ofNat G.2.2.2.1 - 6).toInt = (G.2.2.2.1 : Int) - 6 := pk_sub_toInt (a := G.2.2.2.1) (b := 6) (by omega) (by omega)
      rw [e, nI_toInt (by omega)]
      omega
  | succ n ih =>
    intro i σ hn hi hinv
    refine AX.iload_n dL_law_18 3 rfl rfl ?_
    refine AX.aload_n dL_law_19 0 rfl rfl ?_
    refine AX.alenX dL_law_20 ?_
    refine AX.bipush dL_law_21 bp_6 ?_
    refine AX.isub dL_law_23 ?_
    refine AX.icmp_gt (tgt := 1341) dL_law_24 rfl (fun c => ?_) (fun c => ?_)
    · refine AX.iconst dL_law_1341 ic_1 ?_
      exact AX.ireturn dL_law_1342 rfl nb_1 (hq σ hinv)
    · have hi6 : i + 6 ≤ G.2.2.2.1 := by
        rw [Int32.lt_iff_toInt_lt] at c
        have e : (Int32.ofNat G.2.2.2.1 - 6).toInt = (G.2.2.2.1 : Int) - 6 := pk_sub_toInt (a := G.2.2.2.1) (b := 6) (by omega) (by omega)
        rw [e, nI_toInt (by omega)] at c
        omega
      have hb0 : inb (nI i) G.2.2.2.1 = true := by have := law_inb hL hi6 0 (by omega); rwa [nI_add] at this
      have hb1 : inb (nI i + 1) G.2.2.2.1 = true := law_inb hL hi6 1 (by omega)
      have hb2 : inb (nI i + 2) G.2.2.2.1 = true := law_inb hL hi6 2 (by omega)
      have hb3 : inb (nI i + 3) G.2.2.2.1 = true := law_inb hL hi6 3 (by omega)
      have hb4 : inb (nI i + 4) G.2.2.2.1 = true := law_inb hL hi6 4 (by omega)
      have hb5 : inb (nI i + 5) G.2.2.2.1 = true := law_inb hL hi6 5 (by omega)
      have hcont : ∀ σ2, Inv σ2 → AX G mL_law 10 237 1335 [(0, .ref (G.2.2.1 1002)), (1, .ref (G.2.2.1 0)), (2, .ref (G.2.2.1 44)), (3, .int (nI i))] [] σ2 Q := by
        intro σ2 h2
        refine AX.iinc (v := nI (i + 6)) (ls' := [(0, .ref (G.2.2.1 1002)), (1, .ref (G.2.2.1 0)), (2, .ref (G.2.2.1 44)), (3, .int (nI (i + 6)))]) 3 dL_law_1335 rfl (Nat.le_of_ble_eq_true rfl) ?_ rfl ?_
        · rw [ic_6]; exact nI_add i 6
        · refine AX.goto (tgt := 18) dL_law_1338 rfl ?_
          exact ih (i + 6) σ2 (by omega) (by omega) h2
      refine AX.aload_n dL_law_27 0 rfl rfl ?_
      refine AX.iload_n dL_law_28 3 rfl rfl ?_
      refine AX.ialdX dL_law_29 hb0 ?_
      refine AX.bipush dL_law_30 bp_63 ?_
      refine AX.iand dL_law_32 ?_
      generalize (G.2.2.2.2 (nI i).toNatClampNeg &&& 63) = x
      by_cases c0 : x = 0
      · refine AX.tableIn (tgt := 208) 0 dL_law_33 (by rw [c0]; rfl) (by decide) rfl rfl ?_
        exact lawc_type hls.1 (nI i) σ hinv hb1 hcont
      by_cases c1 : x = 1
      · refine AX.tableIn (tgt := 231) 1 dL_law_33 (by rw [c1]; rfl) (by decide) rfl rfl ?_
        exact lawc_wipe hls.2.1 (nI i) σ hinv  hcont
      by_cases c2 : x = 2
      · refine AX.tableIn (tgt := 244) 2 dL_law_33 (by rw [c2]; rfl) (by decide) rfl rfl ?_
        exact lawc_undo hls.2.2.1 (nI i) σ hinv  hcont
      by_cases c3 : x = 3
      · refine AX.tableIn (tgt := 257) 3 dL_law_33 (by rw [c3]; rfl) (by decide) rfl rfl ?_
        exact lawc_fault hls.2.2.2.1 (nI i) σ hinv  hcont
      by_cases c4 : x = 4
      · refine AX.tableIn (tgt := 270) 4 dL_law_33 (by rw [c4]; rfl) (by decide) rfl rfl ?_
        exact lawc_bar hls.2.2.2.2.1 (nI i) σ hinv hb1 hb2 hcont
      by_cases c5 : x = 5
      · refine AX.tableIn (tgt := 303) 5 dL_law_33 (by rw [c5]; rfl) (by decide) rfl rfl ?_
        exact lawc_odds hls.2.2.2.2.2.1 (nI i) σ hinv hb1 hb2 hb3 hcont
      by_cases c6 : x = 6
      · refine AX.tableIn (tgt := 346) 6 dL_law_33 (by rw [c6]; rfl) (by decide) rfl rfl ?_
        exact lawc_set hls.2.2.2.2.2.2.1 (nI i) σ hinv hb1 hb2 hcont
      by_cases c7 : x = 7
      · refine AX.tableIn (tgt := 379) 7 dL_law_33 (by rw [c7]; rfl) (by decide) rfl rfl ?_
        exact lawc_read hls.2.2.2.2.2.2.2.1 (nI i) σ hinv hb1 hcont
      by_cases c8 : x = 8
      · refine AX.tableIn (tgt := 402) 8 dL_law_33 (by rw [c8]; rfl) (by decide) rfl rfl ?_
        exact lawc_hear hls.2.2.2.2.2.2.2.2.1 (nI i) σ hinv hb1 hb2 hcont
      by_cases c9 : x = 9
      · refine AX.tableIn (tgt := 435) 9 dL_law_33 (by rw [c9]; rfl) (by decide) rfl rfl ?_
        exact lawc_shown hls.2.2.2.2.2.2.2.2.2.1 (nI i) σ hinv hb1 hb2 hcont
      by_cases c10 : x = 10
      · refine AX.tableIn (tgt := 468) 10 dL_law_33 (by rw [c10]; rfl) (by decide) rfl rfl ?_
        exact lawc_forget hls.2.2.2.2.2.2.2.2.2.2.1 (nI i) σ hinv  hcont
      by_cases c11 : x = 11
      · refine AX.tableIn (tgt := 481) 11 dL_law_33 (by rw [c11]; rfl) (by decide) rfl rfl ?_
        exact lawc_where hls.2.2.2.2.2.2.2.2.2.2.2.1 (nI i) σ hinv hb1 hb2 hb3 hcont
      by_cases c12 : x = 12
      · refine AX.tableIn (tgt := 525) 12 dL_law_33 (by rw [c12]; rfl) (by decide) rfl rfl ?_
        exact lawc_likeliest hls.2.2.2.2.2.2.2.2.2.2.2.2.1 (nI i) σ hinv hb1 hcont
      by_cases c13 : x = 13
      · refine AX.tableIn (tgt := 548) 13 dL_law_33 (by rw [c13]; rfl) (by decide) rfl rfl ?_
        exact lawc_strike hls.2.2.2.2.2.2.2.2.2.2.2.2.2.1 (nI i) σ hinv hb1 hb2 hcont
      by_cases c14 : x = 14
      · refine AX.tableIn (tgt := 582) 14 dL_law_33 (by rw [c14]; rfl) (by decide) rfl rfl ?_
        exact lawc_line hls.2.2.2.2.2.2.2.2.2.2.2.2.2.2.1 (nI i) σ hinv  hcont
      by_cases c15 : x = 15
      · refine AX.tableIn (tgt := 595) 15 dL_law_33 (by rw [c15]; rfl) (by decide) rfl rfl ?_
        exact lawc_slips hls.2.2.2.2.2.2.2.2.2.2.2.2.2.2.2.1 (nI i) σ hinv hb1 hb2 hb3 hcont
      by_cases c16 : x = 16
      · refine AX.tableIn (tgt := 639) 16 dL_law_33 (by rw [c16]; rfl) (by decide) rfl rfl ?_
        exact lawc_safe hls.2.2.2.2.2.2.2.2.2.2.2.2.2.2.2.2.1 (nI i) σ hinv hb1 hb2 hcont
      by_cases c17 : x = 17
      · refine AX.tableIn (tgt := 673) 17 dL_law_33 (by rw [c17]; rfl) (by decide) rfl rfl ?_
        exact lawc_write hls.2.2.2.2.2.2.2.2.2.2.2.2.2.2.2.2.2.1 (nI i) σ hinv hb1 hcont
      by_cases c18 : x = 18
      · refine AX.tableIn (tgt := 696) 18 dL_law_33 (by rw [c18]; rfl) (by decide) rfl rfl ?_
        exact lawc_few hls.2.2.2.2.2.2.2.2.2.2.2.2.2.2.2.2.2.2.1 (nI i) σ hinv hb1 hcont
      by_cases c19 : x = 19
      · refine AX.tableIn (tgt := 719) 19 dL_law_33 (by rw [c19]; rfl) (by decide) rfl rfl ?_
        exact lawc_anew hls.2.2.2.2.2.2.2.2.2.2.2.2.2.2.2.2.2.2.2.1 (nI i) σ hinv hb1 hcont
      by_cases c20 : x = 20
      · refine AX.tableIn (tgt := 742) 20 dL_law_33 (by rw [c20]; rfl) (by decide) rfl rfl ?_
        exact lawc_joint hls.2.2.2.2.2.2.2.2.2.2.2.2.2.2.2.2.2.2.2.2.1 (nI i) σ hinv hb1 hb2 hb3 hcont
      by_cases c21 : x = 21
      · refine AX.tableIn (tgt := 786) 21 dL_law_33 (by rw [c21]; rfl) (by decide) rfl rfl ?_
        exact lawc_evening hls.2.2.2.2.2.2.2.2.2.2.2.2.2.2.2.2.2.2.2.2.2.1 (nI i) σ hinv hb1 hb2 hcont
      by_cases c22 : x = 22
      · refine AX.tableIn (tgt := 820) 22 dL_law_33 (by rw [c22]; rfl) (by decide) rfl rfl ?_
        exact lawc_prime hls.2.2.2.2.2.2.2.2.2.2.2.2.2.2.2.2.2.2.2.2.2.2.1 (nI i) σ hinv hb1 hcont
      by_cases c23 : x = 23
      · refine AX.tableIn (tgt := 843) 23 dL_law_33 (by rw [c23]; rfl) (by decide) rfl rfl ?_
        exact lawc_player hls.2.2.2.2.2.2.2.2.2.2.2.2.2.2.2.2.2.2.2.2.2.2.2.1 (nI i) σ hinv hb1 hb2 hcont
      by_cases c24 : x = 24
      · refine AX.tableIn (tgt := 876) 24 dL_law_33 (by rw [c24]; rfl) (by decide) rfl rfl ?_
        exact lawc_leave hls.2.2.2.2.2.2.2.2.2.2.2.2.2.2.2.2.2.2.2.2.2.2.2.2.1 (nI i) σ hinv  hcont
      by_cases c25 : x = 25
      · refine AX.tableIn (tgt := 889) 25 dL_law_33 (by rw [c25]; rfl) (by decide) rfl rfl ?_
        exact lawc_worth hls.2.2.2.2.2.2.2.2.2.2.2.2.2.2.2.2.2.2.2.2.2.2.2.2.2.1 (nI i) σ hinv hb1 hcont
      by_cases c26 : x = 26
      · refine AX.tableIn (tgt := 912) 26 dL_law_33 (by rw [c26]; rfl) (by decide) rfl rfl ?_
        exact lawc_look hls.2.2.2.2.2.2.2.2.2.2.2.2.2.2.2.2.2.2.2.2.2.2.2.2.2.2.1 (nI i) σ hinv hb1 hcont
      by_cases c27 : x = 27
      · refine AX.tableIn (tgt := 935) 27 dL_law_33 (by rw [c27]; rfl) (by decide) rfl rfl ?_
        exact lawc_from hls.2.2.2.2.2.2.2.2.2.2.2.2.2.2.2.2.2.2.2.2.2.2.2.2.2.2.2.1 (nI i) σ hinv hb1 hcont
      by_cases c28 : x = 28
      · refine AX.tableIn (tgt := 958) 28 dL_law_33 (by rw [c28]; rfl) (by decide) rfl rfl ?_
        exact lawc_said hls.2.2.2.2.2.2.2.2.2.2.2.2.2.2.2.2.2.2.2.2.2.2.2.2.2.2.2.2.1 (nI i) σ hinv hb1 hcont
      by_cases c29 : x = 29
      · refine AX.tableIn (tgt := 981) 29 dL_law_33 (by rw [c29]; rfl) (by decide) rfl rfl ?_
        exact lawc_wrong hls.2.2.2.2.2.2.2.2.2.2.2.2.2.2.2.2.2.2.2.2.2.2.2.2.2.2.2.2.2.1 (nI i) σ hinv hb1 hcont
      by_cases c30 : x = 30
      · refine AX.tableIn (tgt := 1004) 30 dL_law_33 (by rw [c30]; rfl) (by decide) rfl rfl ?_
        exact lawc_blame hls.2.2.2.2.2.2.2.2.2.2.2.2.2.2.2.2.2.2.2.2.2.2.2.2.2.2.2.2.2.2.1 (nI i) σ hinv  hcont
      by_cases c31 : x = 31
      · refine AX.tableIn (tgt := 1017) 31 dL_law_33 (by rw [c31]; rfl) (by decide) rfl rfl ?_
        exact lawc_night hls.2.2.2.2.2.2.2.2.2.2.2.2.2.2.2.2.2.2.2.2.2.2.2.2.2.2.2.2.2.2.2.1 (nI i) σ hinv hb1 hb2 hcont
      by_cases c32 : x = 32
      · refine AX.tableIn (tgt := 1050) 32 dL_law_33 (by rw [c32]; rfl) (by decide) rfl rfl ?_
        exact lawc_sheet hls.2.2.2.2.2.2.2.2.2.2.2.2.2.2.2.2.2.2.2.2.2.2.2.2.2.2.2.2.2.2.2.2.1 (nI i) σ hinv hb1 hb2 hb3 hcont
      by_cases c33 : x = 33
      · refine AX.tableIn (tgt := 1093) 33 dL_law_33 (by rw [c33]; rfl) (by decide) rfl rfl ?_
        exact lawc_lose hls.2.2.2.2.2.2.2.2.2.2.2.2.2.2.2.2.2.2.2.2.2.2.2.2.2.2.2.2.2.2.2.2.2.1 (nI i) σ hinv hb1 hcont
      by_cases c34 : x = 34
      · refine AX.tableIn (tgt := 1116) 34 dL_law_33 (by rw [c34]; rfl) (by decide) rfl rfl ?_
        exact lawc_put hls.2.2.2.2.2.2.2.2.2.2.2.2.2.2.2.2.2.2.2.2.2.2.2.2.2.2.2.2.2.2.2.2.2.2.1 (nI i) σ hinv hb1 hb2 hb3 hb4 hcont
      by_cases c35 : x = 35
      · refine AX.tableIn (tgt := 1169) 35 dL_law_33 (by rw [c35]; rfl) (by decide) rfl rfl ?_
        exact lawc_get hls.2.2.2.2.2.2.2.2.2.2.2.2.2.2.2.2.2.2.2.2.2.2.2.2.2.2.2.2.2.2.2.2.2.2.2.1 (nI i) σ hinv hb1 hb2 hb3 hcont
      by_cases c36 : x = 36
      · refine AX.tableIn (tgt := 1212) 36 dL_law_33 (by rw [c36]; rfl) (by decide) rfl rfl ?_
        exact lawc_copy hls.2.2.2.2.2.2.2.2.2.2.2.2.2.2.2.2.2.2.2.2.2.2.2.2.2.2.2.2.2.2.2.2.2.2.2.2.1 (nI i) σ hinv hb1 hb2 hb3 hb4 hb5 hcont
      by_cases c37 : x = 37
      · refine AX.tableIn (tgt := 1275) 37 dL_law_33 (by rw [c37]; rfl) (by decide) rfl rfl ?_
        exact lawc_tell hls.2.2.2.2.2.2.2.2.2.2.2.2.2.2.2.2.2.2.2.2.2.2.2.2.2.2.2.2.2.2.2.2.2.2.2.2.2.1 (nI i) σ hinv hb1 hcont
      by_cases c38 : x = 38
      · refine AX.tableIn (tgt := 1298) 38 dL_law_33 (by rw [c38]; rfl) (by decide) rfl rfl ?_
        exact lawc_count hls.2.2.2.2.2.2.2.2.2.2.2.2.2.2.2.2.2.2.2.2.2.2.2.2.2.2.2.2.2.2.2.2.2.2.2.2.2.2.1 (nI i) σ hinv hb1 hcont
      by_cases c39 : x = 39
      · refine AX.tableIn (tgt := 1321) 39 dL_law_33 (by rw [c39]; rfl) (by decide) rfl rfl ?_
        exact lawc_digest hls.2.2.2.2.2.2.2.2.2.2.2.2.2.2.2.2.2.2.2.2.2.2.2.2.2.2.2.2.2.2.2.2.2.2.2.2.2.2.2 (nI i) σ hinv  hcont
      have e0 := lv_neT c0 (a := 0) rfl
      have e1 := lv_neT c1 (a := 1) rfl
      have e2 := lv_neT c2 (a := 2) rfl
      have e3 := lv_neT c3 (a := 3) rfl
      have e4 := lv_neT c4 (a := 4) rfl
      have e5 := lv_neT c5 (a := 5) rfl
      have e6 := lv_neT c6 (a := 6) rfl
      have e7 := lv_neT c7 (a := 7) rfl
      have e8 := lv_neT c8 (a := 8) rfl
      have e9 := lv_neT c9 (a := 9) rfl
      have e10 := lv_neT c10 (a := 10) rfl
      have e11 := lv_neT c11 (a := 11) rfl
      have e12 := lv_neT c12 (a := 12) rfl
      have e13 := lv_neT c13 (a := 13) rfl
      have e14 := lv_neT c14 (a := 14) rfl
      have e15 := lv_neT c15 (a := 15) rfl
      have e16 := lv_neT c16 (a := 16) rfl
      have e17 := lv_neT c17 (a := 17) rfl
      have e18 := lv_neT c18 (a := 18) rfl
      have e19 := lv_neT c19 (a := 19) rfl
      have e20 := lv_neT c20 (a := 20) rfl
      have e21 := lv_neT c21 (a := 21) rfl
      have e22 := lv_neT c22 (a := 22) rfl
      have e23 := lv_neT c23 (a := 23) rfl
      have e24 := lv_neT c24 (a := 24) rfl
      have e25 := lv_neT c25 (a := 25) rfl
      have e26 := lv_neT c26 (a := 26) rfl
      have e27 := lv_neT c27 (a := 27) rfl
      have e28 := lv_neT c28 (a := 28) rfl
      have e29 := lv_neT c29 (a := 29) rfl
      have e30 := lv_neT c30 (a := 30) rfl
      have e31 := lv_neT c31 (a := 31) rfl
      have e32 := lv_neT c32 (a := 32) rfl
      have e33 := lv_neT c33 (a := 33) rfl
      have e34 := lv_neT c34 (a := 34) rfl
      have e35 := lv_neT c35 (a := 35) rfl
      have e36 := lv_neT c36 (a := 36) rfl
      have e37 := lv_neT c37 (a := 37) rfl
      have e38 := lv_neT c38 (a := 38) rfl
      have e39 := lv_neT c39 (a := 39) rfl
      exact AX.tableOut (tgt := 1335) dL_law_33 (by omega) rfl (hcont σ hinv)
