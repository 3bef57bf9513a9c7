set_option maxRecDepth 100000 in
set_option maxHeartbeats 4000000 in
theorem lwc_0 {l : Launch} {Ω : rO} {b sz L n : Nat} {xs : Nat → Int32} {x4 : Int32} {σ : rS} {kc ks : Nat} {J : rS → Prop} (hA : LWa Ω b sz L n xs x4 kc ks σ) (hI : ∃ r σ1 σ2, fX9_feed (xs (6 * n + 1)) (xs (6 * n + 2)) (xs (6 * n + 3)) (xs (6 * n + 4)) (xs (6 * n + 5)) σ = some (r, σ1) ∧ fX10_feed (xs (6 * n + 1)) (xs (6 * n + 2)) (xs (6 * n + 3)) (xs (6 * n + 4)) (xs (6 * n + 5)) σ1 = some (r, σ2) ∧ J σ2)
    (hk : LCont l b sz L n xs x4 kc ks σ J) : LRun l b sz x4 Ω kc ks 212 σ := by
  obtain ⟨r, σ1, σ2, e1, e2, hJ⟩ := hI
  refine R_aload_n (i := 1) dL_law_212 rfl rfl ?_
  refine R_aload_n (i := 0) dL_law_213 rfl rfl ?_
  refine R_iload (i := 4) dL_law_214 rfl ?_
  refine R_iconst (v := 1) dL_law_216 rfl ?_
  refine R_iadd dL_law_217 ?_
  refine R_sld hA.eb hA.eL hA.ex hA.i1a hA.i1b dL_law_218 ?_
  refine R_aload_n (i := 0) dL_law_219 rfl rfl ?_
  refine R_iload (i := 4) dL_law_220 rfl ?_
  refine R_iconst (v := 2) dL_law_222 rfl ?_
  refine R_iadd dL_law_223 ?_
  refine R_sld hA.eb hA.eL hA.ex hA.i2a hA.i2b dL_law_224 ?_
  refine R_aload_n (i := 0) dL_law_225 rfl rfl ?_
  refine R_iload (i := 4) dL_law_226 rfl ?_
  refine R_iconst (v := 3) dL_law_228 rfl ?_
  refine R_iadd dL_law_229 ?_
  refine R_sld hA.eb hA.eL hA.ex hA.i3a hA.i3b dL_law_230 ?_
  refine R_aload_n (i := 0) dL_law_231 rfl rfl ?_
  refine R_iload (i := 4) dL_law_232 rfl ?_
  refine R_iconst (v := 4) dL_law_234 rfl ?_
  refine R_iadd dL_law_235 ?_
  refine R_sld hA.eb hA.eL hA.ex hA.i4a hA.i4b dL_law_236 ?_
  refine R_aload_n (i := 0) dL_law_237 rfl rfl ?_
  refine R_iload (i := 4) dL_law_238 rfl ?_
  refine R_iconst (v := 5) dL_law_240 rfl ?_
  refine R_iadd dL_law_241 ?_
  refine R_sld hA.eb hA.eL hA.ex hA.i5a hA.i5b dL_law_242 ?_
  refine R_callVi (ctX9_feed l Ω (xs (6 * n + 1)) (xs (6 * n + 2)) (xs (6 * n + 3)) (xs (6 * n + 4)) (xs (6 * n + 5)) hA.l9 _ _ (hit_mono (KE_hit e1) (fun r s hrs => ?_))) okX9_feed mw_375 hA.l9 (cE_9 Ω 0 _) rfl rfl (Nat.le_of_ble_eq_true rfl) rfl rfl ⟨Nat.le_of_ble_eq_true rfl, Nat.le_of_ble_eq_true rfl⟩ ⟨hA.cl, hA.sl⟩ dL_law_243
  rw [hrs.1, hrs.2]
  have hA1 := hA.frame (frX9_feed (xs (6 * n + 1)) (xs (6 * n + 2)) (xs (6 * n + 3)) (xs (6 * n + 4)) (xs (6 * n + 5)) σ _ _ e1) (by decide)
  refine R_aload_n (i := 2) dL_law_246 rfl rfl ?_
  refine R_aload_n (i := 0) dL_law_247 rfl rfl ?_
  refine R_iload (i := 4) dL_law_248 rfl ?_
  refine R_iconst (v := 1) dL_law_250 rfl ?_
  refine R_iadd dL_law_251 ?_
  refine R_sld hA1.eb hA1.eL hA1.ex hA1.i1a hA1.i1b dL_law_252 ?_
  refine R_aload_n (i := 0) dL_law_253 rfl rfl ?_
  refine R_iload (i := 4) dL_law_254 rfl ?_
  refine R_iconst (v := 2) dL_law_256 rfl ?_
  refine R_iadd dL_law_257 ?_
  refine R_sld hA1.eb hA1.eL hA1.ex hA1.i2a hA1.i2b dL_law_258 ?_
  refine R_aload_n (i := 0) dL_law_259 rfl rfl ?_
  refine R_iload (i := 4) dL_law_260 rfl ?_
  refine R_iconst (v := 3) dL_law_262 rfl ?_
  refine R_iadd dL_law_263 ?_
  refine R_sld hA1.eb hA1.eL hA1.ex hA1.i3a hA1.i3b dL_law_264 ?_
  refine R_aload_n (i := 0) dL_law_265 rfl rfl ?_
  refine R_iload (i := 4) dL_law_266 rfl ?_
  refine R_iconst (v := 4) dL_law_268 rfl ?_
  refine R_iadd dL_law_269 ?_
  refine R_sld hA1.eb hA1.eL hA1.ex hA1.i4a hA1.i4b dL_law_270 ?_
  refine R_aload_n (i := 0) dL_law_271 rfl rfl ?_
  refine R_iload (i := 4) dL_law_272 rfl ?_
  refine R_iconst (v := 5) dL_law_274 rfl ?_
  refine R_iadd dL_law_275 ?_
  refine R_sld hA1.eb hA1.eL hA1.ex hA1.i5a hA1.i5b dL_law_276 ?_
  refine R_callVi (ctX10_feed l Ω (xs (6 * n + 1)) (xs (6 * n + 2)) (xs (6 * n + 3)) (xs (6 * n + 4)) (xs (6 * n + 5)) hA1.l10 _ _ (hit_mono (KE_hit e2) (fun r2 s2 hrs2 => ?_))) okX10_feed mw_1296 hA1.l10 (cE_10 Ω 0 _) rfl rfl (Nat.le_of_ble_eq_true rfl) rfl rfl ⟨Nat.le_of_ble_eq_true rfl, Nat.le_of_ble_eq_true rfl⟩ ⟨hA.cl, hA.sl⟩ dL_law_277
  rw [hrs2.1, hrs2.2]
  have f29 : σ2 29 = σ1 29 := frX10_feed (xs (6 * n + 1)) (xs (6 * n + 2)) (xs (6 * n + 3)) (xs (6 * n + 4)) (xs (6 * n + 5)) σ1 _ _ e2 29 (by decide)
  have hA2 := hA1.frame (frX10_feed (xs (6 * n + 1)) (xs (6 * n + 2)) (xs (6 * n + 3)) (xs (6 * n + 4)) (xs (6 * n + 5)) σ1 _ _ e2) (by decide)
  refine R_icmp_eq (tgt := 1494) dL_law_280 (by decide) (fun _ => ?_) (fun hc => absurd rfl hc)
  have g29 : σ1 29 = σ 29 := frX9_feed (xs (6 * n + 1)) (xs (6 * n + 2)) (xs (6 * n + 3)) (xs (6 * n + 4)) (xs (6 * n + 5)) σ _ _ e1 29 (by decide)
  exact hk Ω σ2 _ _ hA2 (by omega) (by omega) (by rw [f29, g29]; exact Nat.le_refl _) hJ
set_option maxRecDepth 100000 in
set_option maxHeartbeats 4000000 in
theorem lwc_1 {l : Launch} {Ω : rO} {b sz L n : Nat} {xs : Nat → Int32} {x4 : Int32} {σ : rS} {kc ks : Nat} {J : rS → Prop} (hA : LWa Ω b sz L n xs x4 kc ks σ) (hI : ∃ r σ1 σ2, fX9_end (xs (6 * n + 1)) σ = some (r, σ1) ∧ fX10_end (xs (6 * n + 1)) σ1 = some (r, σ2) ∧ J σ2)
    (hk : LCont l b sz L n xs x4 kc ks σ J) : LRun l b sz x4 Ω kc ks 285 σ := by
  obtain ⟨r, σ1, σ2, e1, e2, hJ⟩ := hI
  refine R_aload_n (i := 1) dL_law_285 rfl rfl ?_
  refine R_aload_n (i := 0) dL_law_286 rfl rfl ?_
  refine R_iload (i := 4) dL_law_287 rfl ?_
  refine R_iconst (v := 1) dL_law_289 rfl ?_
  refine R_iadd dL_law_290 ?_
  refine R_sld hA.eb hA.eL hA.ex hA.i1a hA.i1b dL_law_291 ?_
  refine R_callVi (ctX9_end l Ω (xs (6 * n + 1)) hA.l9 _ _ (hit_mono (KE_hit e1) (fun r s hrs => ?_))) okX9_end mw_386 hA.l9 (cE_9 Ω 0 _) rfl rfl (Nat.le_of_ble_eq_true rfl) rfl rfl ⟨Nat.le_of_ble_eq_true rfl, Nat.le_of_ble_eq_true rfl⟩ ⟨hA.cl, hA.sl⟩ dL_law_292
  rw [hrs.1, hrs.2]
  have hA1 := hA.frame (frX9_end (xs (6 * n + 1)) σ _ _ e1) (by decide)
  refine R_aload_n (i := 2) dL_law_295 rfl rfl ?_
  refine R_aload_n (i := 0) dL_law_296 rfl rfl ?_
  refine R_iload (i := 4) dL_law_297 rfl ?_
  refine R_iconst (v := 1) dL_law_299 rfl ?_
  refine R_iadd dL_law_300 ?_
  refine R_sld hA1.eb hA1.eL hA1.ex hA1.i1a hA1.i1b dL_law_301 ?_
  refine R_callVi (ctX10_end l Ω (xs (6 * n + 1)) hA1.l10 _ _ (hit_mono (KE_hit e2) (fun r2 s2 hrs2 => ?_))) okX10_end mw_1307 hA1.l10 (cE_10 Ω 0 _) rfl rfl (Nat.le_of_ble_eq_true rfl) rfl rfl ⟨Nat.le_of_ble_eq_true rfl, Nat.le_of_ble_eq_true rfl⟩ ⟨hA.cl, hA.sl⟩ dL_law_302
  rw [hrs2.1, hrs2.2]
  have f29 : σ2 29 = σ1 29 := frX10_end (xs (6 * n + 1)) σ1 _ _ e2 29 (by decide)
  have hA2 := hA1.frame (frX10_end (xs (6 * n + 1)) σ1 _ _ e2) (by decide)
  refine R_icmp_eq (tgt := 1494) dL_law_305 (by decide) (fun _ => ?_) (fun hc => absurd rfl hc)
  have g29 : σ1 29 = σ 29 := frX9_end (xs (6 * n + 1)) σ _ _ e1 29 (by decide)
  exact hk Ω σ2 _ _ hA2 (by omega) (by omega) (by rw [f29, g29]; exact Nat.le_refl _) hJ
set_option maxRecDepth 100000 in
set_option maxHeartbeats 4000000 in
theorem lwc_2 {l : Launch} {Ω : rO} {b sz L n : Nat} {xs : Nat → Int32} {x4 : Int32} {σ : rS} {kc ks : Nat} {J : rS → Prop} (hA : LWa Ω b sz L n xs x4 kc ks σ) (hI : ∃ r σ1 σ2, fX9_fault (xs (6 * n + 1)) σ = some (r, σ1) ∧ fX10_fault (xs (6 * n + 1)) σ1 = some (r, σ2) ∧ J σ2)
    (hk : LCont l b sz L n xs x4 kc ks σ J) : LRun l b sz x4 Ω kc ks 310 σ := by
  obtain ⟨r, σ1, σ2, e1, e2, hJ⟩ := hI
  refine R_aload_n (i := 1) dL_law_310 rfl rfl ?_
  refine R_aload_n (i := 0) dL_law_311 rfl rfl ?_
  refine R_iload (i := 4) dL_law_312 rfl ?_
  refine R_iconst (v := 1) dL_law_314 rfl ?_
  refine R_iadd dL_law_315 ?_
  refine R_sld hA.eb hA.eL hA.ex hA.i1a hA.i1b dL_law_316 ?_
  refine R_callVi (ctX9_fault l Ω (xs (6 * n + 1)) hA.l9 _ _ (hit_mono (KE_hit e1) (fun r s hrs => ?_))) okX9_fault mw_390 hA.l9 (cE_9 Ω 0 _) rfl rfl (Nat.le_of_ble_eq_true rfl) rfl rfl ⟨Nat.le_of_ble_eq_true rfl, Nat.le_of_ble_eq_true rfl⟩ ⟨hA.cl, hA.sl⟩ dL_law_317
  rw [hrs.1, hrs.2]
  have hA1 := hA.frame (frX9_fault (xs (6 * n + 1)) σ _ _ e1) (by decide)
  refine R_aload_n (i := 2) dL_law_320 rfl rfl ?_
  refine R_aload_n (i := 0) dL_law_321 rfl rfl ?_
  refine R_iload (i := 4) dL_law_322 rfl ?_
  refine R_iconst (v := 1) dL_law_324 rfl ?_
  refine R_iadd dL_law_325 ?_
  refine R_sld hA1.eb hA1.eL hA1.ex hA1.i1a hA1.i1b dL_law_326 ?_
  refine R_callVi (ctX10_fault l Ω (xs (6 * n + 1)) hA1.l10 _ _ (hit_mono (KE_hit e2) (fun r2 s2 hrs2 => ?_))) okX10_fault mw_1311 hA1.l10 (cE_10 Ω 0 _) rfl rfl (Nat.le_of_ble_eq_true rfl) rfl rfl ⟨Nat.le_of_ble_eq_true rfl, Nat.le_of_ble_eq_true rfl⟩ ⟨hA.cl, hA.sl⟩ dL_law_327
  rw [hrs2.1, hrs2.2]
  have f29 : σ2 29 = σ1 29 := frX10_fault (xs (6 * n + 1)) σ1 _ _ e2 29 (by decide)
  have hA2 := hA1.frame (frX10_fault (xs (6 * n + 1)) σ1 _ _ e2) (by decide)
  refine R_icmp_eq (tgt := 1494) dL_law_330 (by decide) (fun _ => ?_) (fun hc => absurd rfl hc)
  have g29 : σ1 29 = σ 29 := frX9_fault (xs (6 * n + 1)) σ _ _ e1 29 (by decide)
  exact hk Ω σ2 _ _ hA2 (by omega) (by omega) (by rw [f29, g29]; exact Nat.le_refl _) hJ
set_option maxRecDepth 100000 in
set_option maxHeartbeats 4000000 in
theorem lwc_3 {l : Launch} {Ω : rO} {b sz L n : Nat} {xs : Nat → Int32} {x4 : Int32} {σ : rS} {kc ks : Nat} {J : rS → Prop} (hA : LWa Ω b sz L n xs x4 kc ks σ) (hI : ∃ r σ1 σ2, fX9_text (xs (6 * n + 1)) σ = some (r, σ1) ∧ fX10_text (xs (6 * n + 1)) σ1 = some (r, σ2) ∧ J σ2)
    (hk : LCont l b sz L n xs x4 kc ks σ J) : LRun l b sz x4 Ω kc ks 335 σ := by
  obtain ⟨r, σ1, σ2, e1, e2, hJ⟩ := hI
  refine R_aload_n (i := 1) dL_law_335 rfl rfl ?_
  refine R_aload_n (i := 0) dL_law_336 rfl rfl ?_
  refine R_iload (i := 4) dL_law_337 rfl ?_
  refine R_iconst (v := 1) dL_law_339 rfl ?_
  refine R_iadd dL_law_340 ?_
  refine R_sld hA.eb hA.eL hA.ex hA.i1a hA.i1b dL_law_341 ?_
  refine R_callVi (ctX9_text l Ω (xs (6 * n + 1)) hA.l9 _ _ (hit_mono (KE_hit e1) (fun r s hrs => ?_))) okX9_text mw_523 hA.l9 (cE_9 Ω 0 _) rfl rfl (Nat.le_of_ble_eq_true rfl) rfl rfl ⟨Nat.le_of_ble_eq_true rfl, Nat.le_of_ble_eq_true rfl⟩ ⟨hA.cl, hA.sl⟩ dL_law_342
  rw [hrs.1, hrs.2]
  have hA1 := hA.frame (frX9_text (xs (6 * n + 1)) σ _ _ e1) (by decide)
  refine R_aload_n (i := 2) dL_law_345 rfl rfl ?_
  refine R_aload_n (i := 0) dL_law_346 rfl rfl ?_
  refine R_iload (i := 4) dL_law_347 rfl ?_
  refine R_iconst (v := 1) dL_law_349 rfl ?_
  refine R_iadd dL_law_350 ?_
  refine R_sld hA1.eb hA1.eL hA1.ex hA1.i1a hA1.i1b dL_law_351 ?_
  refine R_callVi (ctX10_text l Ω (xs (6 * n + 1)) hA1.l10 _ _ (hit_mono (KE_hit e2) (fun r2 s2 hrs2 => ?_))) okX10_text mw_1389 hA1.l10 (cE_10 Ω 0 _) rfl rfl (Nat.le_of_ble_eq_true rfl) rfl rfl ⟨Nat.le_of_ble_eq_true rfl, Nat.le_of_ble_eq_true rfl⟩ ⟨hA.cl, hA.sl⟩ dL_law_352
  rw [hrs2.1, hrs2.2]
  have f29 : σ2 29 = σ1 29 := frX10_text (xs (6 * n + 1)) σ1 _ _ e2 29 (by decide)
  have hA2 := hA1.frame (frX10_text (xs (6 * n + 1)) σ1 _ _ e2) (by decide)
  refine R_icmp_eq (tgt := 1494) dL_law_355 (by decide) (fun _ => ?_) (fun hc => absurd rfl hc)
  have g29 : σ1 29 = σ 29 := frX9_text (xs (6 * n + 1)) σ _ _ e1 29 (by decide)
  exact hk Ω σ2 _ _ hA2 (by omega) (by omega) (by rw [f29, g29]; exact Nat.le_refl _) hJ
set_option maxRecDepth 100000 in
set_option maxHeartbeats 4000000 in
theorem lwc_4 {l : Launch} {Ω : rO} {b sz L n : Nat} {xs : Nat → Int32} {x4 : Int32} {σ : rS} {kc ks : Nat} {J : rS → Prop} (hA : LWa Ω b sz L n xs x4 kc ks σ) (hI : ∃ r σ1 σ2, fX9_rule (xs (6 * n + 1)) σ = some (r, σ1) ∧ fX10_rule (xs (6 * n + 1)) σ1 = some (r, σ2) ∧ J σ2)
    (hk : LCont l b sz L n xs x4 kc ks σ J) : LRun l b sz x4 Ω kc ks 360 σ := by
  obtain ⟨r, σ1, σ2, e1, e2, hJ⟩ := hI
  refine R_aload_n (i := 1) dL_law_360 rfl rfl ?_
  refine R_aload_n (i := 0) dL_law_361 rfl rfl ?_
  refine R_iload (i := 4) dL_law_362 rfl ?_
  refine R_iconst (v := 1) dL_law_364 rfl ?_
  refine R_iadd dL_law_365 ?_
  refine R_sld hA.eb hA.eL hA.ex hA.i1a hA.i1b dL_law_366 ?_
  refine R_callVi (ctX9_rule l Ω (xs (6 * n + 1)) hA.l9 _ _ (hit_mono (KE_hit e1) (fun r s hrs => ?_))) okX9_rule mw_540 hA.l9 (cE_9 Ω 0 _) rfl rfl (Nat.le_of_ble_eq_true rfl) rfl rfl ⟨Nat.le_of_ble_eq_true rfl, Nat.le_of_ble_eq_true rfl⟩ ⟨hA.cl, hA.sl⟩ dL_law_367
  rw [hrs.1, hrs.2]
  have hA1 := hA.frame (frX9_rule (xs (6 * n + 1)) σ _ _ e1) (by decide)
  refine R_aload_n (i := 2) dL_law_370 rfl rfl ?_
  refine R_aload_n (i := 0) dL_law_371 rfl rfl ?_
  refine R_iload (i := 4) dL_law_372 rfl ?_
  refine R_iconst (v := 1) dL_law_374 rfl ?_
  refine R_iadd dL_law_375 ?_
  refine R_sld hA1.eb hA1.eL hA1.ex hA1.i1a hA1.i1b dL_law_376 ?_
  refine R_callVi (ctX10_rule l Ω (xs (6 * n + 1)) hA1.l10 _ _ (hit_mono (KE_hit e2) (fun r2 s2 hrs2 => ?_))) okX10_rule mw_1622 hA1.l10 (cE_10 Ω 0 _) rfl rfl (Nat.le_of_ble_eq_true rfl) rfl rfl ⟨Nat.le_of_ble_eq_true rfl, Nat.le_of_ble_eq_true rfl⟩ ⟨hA.cl, hA.sl⟩ dL_law_377
  rw [hrs2.1, hrs2.2]
  have f29 : σ2 29 = σ1 29 := frX10_rule (xs (6 * n + 1)) σ1 _ _ e2 29 (by decide)
  have hA2 := hA1.frame (frX10_rule (xs (6 * n + 1)) σ1 _ _ e2) (by decide)
  refine R_icmp_eq (tgt := 1494) dL_law_380 (by decide) (fun _ => ?_) (fun hc => absurd rfl hc)
  have g29 : σ1 29 = σ 29 := frX9_rule (xs (6 * n + 1)) σ _ _ e1 29 (by decide)
  exact hk Ω σ2 _ _ hA2 (by omega) (by omega) (by rw [f29, g29]; exact Nat.le_refl _) hJ
set_option maxRecDepth 100000 in
set_option maxHeartbeats 4000000 in
theorem lwc_5 {l : Launch} {Ω : rO} {b sz L n : Nat} {xs : Nat → Int32} {x4 : Int32} {σ : rS} {kc ks : Nat} {J : rS → Prop} (hA : LWa Ω b sz L n xs x4 kc ks σ) (hI : ∃ r σ1 σ2, fX9_root (xs (6 * n + 1)) σ = some (r, σ1) ∧ fX10_root (xs (6 * n + 1)) σ1 = some (r, σ2) ∧ J σ2)
    (hk : LCont l b sz L n xs x4 kc ks σ J) : LRun l b sz x4 Ω kc ks 385 σ := by
  obtain ⟨r, σ1, σ2, e1, e2, hJ⟩ := hI
  refine R_aload_n (i := 1) dL_law_385 rfl rfl ?_
  refine R_aload_n (i := 0) dL_law_386 rfl rfl ?_
  refine R_iload (i := 4) dL_law_387 rfl ?_
  refine R_iconst (v := 1) dL_law_389 rfl ?_
  refine R_iadd dL_law_390 ?_
  refine R_sld hA.eb hA.eL hA.ex hA.i1a hA.i1b dL_law_391 ?_
  refine R_callVi (ctX9_root l Ω (xs (6 * n + 1)) hA.l9 _ _ (hit_mono (KE_hit e1) (fun r s hrs => ?_))) okX9_root mw_544 hA.l9 (cE_9 Ω 0 _) rfl rfl (Nat.le_of_ble_eq_true rfl) rfl rfl ⟨Nat.le_of_ble_eq_true rfl, Nat.le_of_ble_eq_true rfl⟩ ⟨hA.cl, hA.sl⟩ dL_law_392
  rw [hrs.1, hrs.2]
  have hA1 := hA.frame (frX9_root (xs (6 * n + 1)) σ _ _ e1) (by decide)
  refine R_aload_n (i := 2) dL_law_395 rfl rfl ?_
  refine R_aload_n (i := 0) dL_law_396 rfl rfl ?_
  refine R_iload (i := 4) dL_law_397 rfl ?_
  refine R_iconst (v := 1) dL_law_399 rfl ?_
  refine R_iadd dL_law_400 ?_
  refine R_sld hA1.eb hA1.eL hA1.ex hA1.i1a hA1.i1b dL_law_401 ?_
  refine R_callVi (ctX10_root l Ω (xs (6 * n + 1)) hA1.l10 _ _ (hit_mono (KE_hit e2) (fun r2 s2 hrs2 => ?_))) okX10_root mw_1626 hA1.l10 (cE_10 Ω 0 _) rfl rfl (Nat.le_of_ble_eq_true rfl) rfl rfl ⟨Nat.le_of_ble_eq_true rfl, Nat.le_of_ble_eq_true rfl⟩ ⟨hA.cl, hA.sl⟩ dL_law_402
  rw [hrs2.1, hrs2.2]
  have f29 : σ2 29 = σ1 29 := frX10_root (xs (6 * n + 1)) σ1 _ _ e2 29 (by decide)
  have hA2 := hA1.frame (frX10_root (xs (6 * n + 1)) σ1 _ _ e2) (by decide)
  refine R_icmp_eq (tgt := 1494) dL_law_405 (by decide) (fun _ => ?_) (fun hc => absurd rfl hc)
  have g29 : σ1 29 = σ 29 := frX9_root (xs (6 * n + 1)) σ _ _ e1 29 (by decide)
  exact hk Ω σ2 _ _ hA2 (by omega) (by omega) (by rw [f29, g29]; exact Nat.le_refl _) hJ
set_option maxRecDepth 100000 in
set_option maxHeartbeats 4000000 in
theorem lwc_7 {l : Launch} {Ω : rO} {b sz L n : Nat} {xs : Nat → Int32} {x4 : Int32} {σ : rS} {kc ks : Nat} {J : rS → Prop} (hA : LWa Ω b sz L n xs x4 kc ks σ) (hI : ∃ r σ1 σ2, fX9_field (xs (6 * n + 1)) (xs (6 * n + 2)) σ = some (r, σ1) ∧ fX10_field (xs (6 * n + 1)) (xs (6 * n + 2)) σ1 = some (r, σ2) ∧ J σ2)
    (hk : LCont l b sz L n xs x4 kc ks σ J) : LRun l b sz x4 Ω kc ks 478 σ := by
  obtain ⟨r, σ1, σ2, e1, e2, hJ⟩ := hI
  refine R_aload_n (i := 1) dL_law_478 rfl rfl ?_
  refine R_aload_n (i := 0) dL_law_479 rfl rfl ?_
  refine R_iload (i := 4) dL_law_480 rfl ?_
  refine R_iconst (v := 1) dL_law_482 rfl ?_
  refine R_iadd dL_law_483 ?_
  refine R_sld hA.eb hA.eL hA.ex hA.i1a hA.i1b dL_law_484 ?_
  refine R_aload_n (i := 0) dL_law_485 rfl rfl ?_
  refine R_iload (i := 4) dL_law_486 rfl ?_
  refine R_iconst (v := 2) dL_law_488 rfl ?_
  refine R_iadd dL_law_489 ?_
  refine R_sld hA.eb hA.eL hA.ex hA.i2a hA.i2b dL_law_490 ?_
  refine R_callVi (ctX9_field l Ω (xs (6 * n + 1)) (xs (6 * n + 2)) hA.l9 _ _ (hit_mono (KE_hit e1) (fun r s hrs => ?_))) okX9_field mw_559 hA.l9 (cE_9 Ω 0 _) rfl rfl (Nat.le_of_ble_eq_true rfl) rfl rfl ⟨Nat.le_of_ble_eq_true rfl, Nat.le_of_ble_eq_true rfl⟩ ⟨hA.cl, hA.sl⟩ dL_law_491
  rw [hrs.1, hrs.2]
  have hA1 := hA.frame (frX9_field (xs (6 * n + 1)) (xs (6 * n + 2)) σ _ _ e1) (by decide)
  refine R_aload_n (i := 2) dL_law_494 rfl rfl ?_
  refine R_aload_n (i := 0) dL_law_495 rfl rfl ?_
  refine R_iload (i := 4) dL_law_496 rfl ?_
  refine R_iconst (v := 1) dL_law_498 rfl ?_
  refine R_iadd dL_law_499 ?_
  refine R_sld hA1.eb hA1.eL hA1.ex hA1.i1a hA1.i1b dL_law_500 ?_
  refine R_aload_n (i := 0) dL_law_501 rfl rfl ?_
  refine R_iload (i := 4) dL_law_502 rfl ?_
  refine R_iconst (v := 2) dL_law_504 rfl ?_
  refine R_iadd dL_law_505 ?_
  refine R_sld hA1.eb hA1.eL hA1.ex hA1.i2a hA1.i2b dL_law_506 ?_
  refine R_callVi (ctX10_field l Ω (xs (6 * n + 1)) (xs (6 * n + 2)) hA1.l10 _ _ (hit_mono (KE_hit e2) (fun r2 s2 hrs2 => ?_))) okX10_field mw_1639 hA1.l10 (cE_10 Ω 0 _) rfl rfl (Nat.le_of_ble_eq_true rfl) rfl rfl ⟨Nat.le_of_ble_eq_true rfl, Nat.le_of_ble_eq_true rfl⟩ ⟨hA.cl, hA.sl⟩ dL_law_507
  rw [hrs2.1, hrs2.2]
  have f29 : σ2 29 = σ1 29 := frX10_field (xs (6 * n + 1)) (xs (6 * n + 2)) σ1 _ _ e2 29 (by decide)
  have hA2 := hA1.frame (frX10_field (xs (6 * n + 1)) (xs (6 * n + 2)) σ1 _ _ e2) (by decide)
  refine R_icmp_eq (tgt := 1494) dL_law_510 (by decide) (fun _ => ?_) (fun hc => absurd rfl hc)
  have g29 : σ1 29 = σ 29 := frX9_field (xs (6 * n + 1)) (xs (6 * n + 2)) σ _ _ e1 29 (by decide)
  exact hk Ω σ2 _ _ hA2 (by omega) (by omega) (by rw [f29, g29]; exact Nat.le_refl _) hJ
set_option maxRecDepth 100000 in
set_option maxHeartbeats 4000000 in
theorem lwc_8 {l : Launch} {Ω : rO} {b sz L n : Nat} {xs : Nat → Int32} {x4 : Int32} {σ : rS} {kc ks : Nat} {J : rS → Prop} (hA : LWa Ω b sz L n xs x4 kc ks σ) (hI : ∃ r σ1 σ2, fX9_at (xs (6 * n + 1)) (xs (6 * n + 2)) σ = some (r, σ1) ∧ fX10_at (xs (6 * n + 1)) (xs (6 * n + 2)) σ1 = some (r, σ2) ∧ J σ2)
    (hk : LCont l b sz L n xs x4 kc ks σ J) : LRun l b sz x4 Ω kc ks 515 σ := by
  obtain ⟨r, σ1, σ2, e1, e2, hJ⟩ := hI
  refine R_aload_n (i := 1) dL_law_515 rfl rfl ?_
  refine R_aload_n (i := 0) dL_law_516 rfl rfl ?_
  refine R_iload (i := 4) dL_law_517 rfl ?_
  refine R_iconst (v := 1) dL_law_519 rfl ?_
  refine R_iadd dL_law_520 ?_
  refine R_sld hA.eb hA.eL hA.ex hA.i1a hA.i1b dL_law_521 ?_
  refine R_aload_n (i := 0) dL_law_522 rfl rfl ?_
  refine R_iload (i := 4) dL_law_523 rfl ?_
  refine R_iconst (v := 2) dL_law_525 rfl ?_
  refine R_iadd dL_law_526 ?_
  refine R_sld hA.eb hA.eL hA.ex hA.i2a hA.i2b dL_law_527 ?_
  refine R_callVi (ctX9_at l Ω (xs (6 * n + 1)) (xs (6 * n + 2)) hA.l9 _ _ (hit_mono (KE_hit e1) (fun r s hrs => ?_))) okX9_at mw_575 hA.l9 (cE_9 Ω 0 _) rfl rfl (Nat.le_of_ble_eq_true rfl) rfl rfl ⟨Nat.le_of_ble_eq_true rfl, Nat.le_of_ble_eq_true rfl⟩ ⟨hA.cl, hA.sl⟩ dL_law_528
  rw [hrs.1, hrs.2]
  have hA1 := hA.frame (frX9_at (xs (6 * n + 1)) (xs (6 * n + 2)) σ _ _ e1) (by decide)
  refine R_aload_n (i := 2) dL_law_531 rfl rfl ?_
  refine R_aload_n (i := 0) dL_law_532 rfl rfl ?_
  refine R_iload (i := 4) dL_law_533 rfl ?_
  refine R_iconst (v := 1) dL_law_535 rfl ?_
  refine R_iadd dL_law_536 ?_
  refine R_sld hA1.eb hA1.eL hA1.ex hA1.i1a hA1.i1b dL_law_537 ?_
  refine R_aload_n (i := 0) dL_law_538 rfl rfl ?_
  refine R_iload (i := 4) dL_law_539 rfl ?_
  refine R_iconst (v := 2) dL_law_541 rfl ?_
  refine R_iadd dL_law_542 ?_
  refine R_sld hA1.eb hA1.eL hA1.ex hA1.i2a hA1.i2b dL_law_543 ?_
  refine R_callVi (ctX10_at l Ω (xs (6 * n + 1)) (xs (6 * n + 2)) hA1.l10 _ _ (hit_mono (KE_hit e2) (fun r2 s2 hrs2 => ?_))) okX10_at mw_1643 hA1.l10 (cE_10 Ω 0 _) rfl rfl (Nat.le_of_ble_eq_true rfl) rfl rfl ⟨Nat.le_of_ble_eq_true rfl, Nat.le_of_ble_eq_true rfl⟩ ⟨hA.cl, hA.sl⟩ dL_law_544
  rw [hrs2.1, hrs2.2]
  have f29 : σ2 29 = σ1 29 := frX10_at (xs (6 * n + 1)) (xs (6 * n + 2)) σ1 _ _ e2 29 (by decide)
  have hA2 := hA1.frame (frX10_at (xs (6 * n + 1)) (xs (6 * n + 2)) σ1 _ _ e2) (by decide)
  refine R_icmp_eq (tgt := 1494) dL_law_547 (by decide) (fun _ => ?_) (fun hc => absurd rfl hc)
  have g29 : σ1 29 = σ 29 := frX9_at (xs (6 * n + 1)) (xs (6 * n + 2)) σ _ _ e1 29 (by decide)
  exact hk Ω σ2 _ _ hA2 (by omega) (by omega) (by rw [f29, g29]; exact Nat.le_refl _) hJ
set_option maxRecDepth 100000 in
set_option maxHeartbeats 4000000 in
theorem lwc_9 {l : Launch} {Ω : rO} {b sz L n : Nat} {xs : Nat → Int32} {x4 : Int32} {σ : rS} {kc ks : Nat} {J : rS → Prop} (hA : LWa Ω b sz L n xs x4 kc ks σ) (hI : ∃ r σ1 σ2, fX9_make (xs (6 * n + 1)) (xs (6 * n + 2)) (xs (6 * n + 3)) (xs (6 * n + 4)) σ = some (r, σ1) ∧ fX10_make (xs (6 * n + 1)) (xs (6 * n + 2)) (xs (6 * n + 3)) (xs (6 * n + 4)) σ1 = some (r, σ2) ∧ J σ2)
    (hk : LCont l b sz L n xs x4 kc ks σ J) : LRun l b sz x4 Ω kc ks 552 σ := by
  obtain ⟨r, σ1, σ2, e1, e2, hJ⟩ := hI
  refine R_aload_n (i := 1) dL_law_552 rfl rfl ?_
  refine R_aload_n (i := 0) dL_law_553 rfl rfl ?_
  refine R_iload (i := 4) dL_law_554 rfl ?_
  refine R_iconst (v := 1) dL_law_556 rfl ?_
  refine R_iadd dL_law_557 ?_
  refine R_sld hA.eb hA.eL hA.ex hA.i1a hA.i1b dL_law_558 ?_
  refine R_aload_n (i := 0) dL_law_559 rfl rfl ?_
  refine R_iload (i := 4) dL_law_560 rfl ?_
  refine R_iconst (v := 2) dL_law_562 rfl ?_
  refine R_iadd dL_law_563 ?_
  refine R_sld hA.eb hA.eL hA.ex hA.i2a hA.i2b dL_law_564 ?_
  refine R_aload_n (i := 0) dL_law_565 rfl rfl ?_
  refine R_iload (i := 4) dL_law_566 rfl ?_
  refine R_iconst (v := 3) dL_law_568 rfl ?_
  refine R_iadd dL_law_569 ?_
  refine R_sld hA.eb hA.eL hA.ex hA.i3a hA.i3b dL_law_570 ?_
  refine R_aload_n (i := 0) dL_law_571 rfl rfl ?_
  refine R_iload (i := 4) dL_law_572 rfl ?_
  refine R_iconst (v := 4) dL_law_574 rfl ?_
  refine R_iadd dL_law_575 ?_
  refine R_sld hA.eb hA.eL hA.ex hA.i4a hA.i4b dL_law_576 ?_
  have hmn := mnA_make _ _ _ _ _ _ _ e1
  have hcl := cntF_le (σ1 29 0)
  refine A_callV (ctA_make l Ω (xs (6 * n + 1)) (xs (6 * n + 2)) (xs (6 * n + 3)) (xs (6 * n + 4)) hA.l9 σ _ _ hA.wo e1) okX9_make mw_587 hA.l9 (cE_9 Ω 0 _) rfl rfl (Nat.le_of_ble_eq_true rfl) rfl rfl ⟨Nat.le_of_ble_eq_true rfl, Nat.le_of_ble_eq_true rfl⟩ ⟨by have := hA.kc3; show _ ≤ 601024; omega, by have := hA.ks3; show _ ≤ 7293034; omega⟩ dL_law_577 (fun Ω2 hE hO2 => ?_)
  have hA1 := hA.ext hE hO2
  refine R_eq (lv2 := [some (.ref b), some (rf Ω2 9 0), some (rf Ω2 10 0), some (rf Ω2 77 0), some (.int x4), none, none]) (st2 := [.int r]) (by simp only [rf, hE.a hA.l9, hE.a hA.l10, hE.a hA.l77]) rfl ?_
  refine R_aload_n (i := 2) dL_law_580 rfl rfl ?_
  refine R_aload_n (i := 0) dL_law_581 rfl rfl ?_
  refine R_iload (i := 4) dL_law_582 rfl ?_
  refine R_iconst (v := 1) dL_law_584 rfl ?_
  refine R_iadd dL_law_585 ?_
  refine R_sld hA1.eb hA1.eL hA1.ex hA1.i1a hA1.i1b dL_law_586 ?_
  refine R_aload_n (i := 0) dL_law_587 rfl rfl ?_
  refine R_iload (i := 4) dL_law_588 rfl ?_
  refine R_iconst (v := 2) dL_law_590 rfl ?_
  refine R_iadd dL_law_591 ?_
  refine R_sld hA1.eb hA1.eL hA1.ex hA1.i2a hA1.i2b dL_law_592 ?_
  refine R_aload_n (i := 0) dL_law_593 rfl rfl ?_
  refine R_iload (i := 4) dL_law_594 rfl ?_
  refine R_iconst (v := 3) dL_law_596 rfl ?_
  refine R_iadd dL_law_597 ?_
  refine R_sld hA1.eb hA1.eL hA1.ex hA1.i3a hA1.i3b dL_law_598 ?_
  refine R_aload_n (i := 0) dL_law_599 rfl rfl ?_
  refine R_iload (i := 4) dL_law_600 rfl ?_
  refine R_iconst (v := 4) dL_law_602 rfl ?_
  refine R_iadd dL_law_603 ?_
  refine R_sld hA1.eb hA1.eL hA1.ex hA1.i4a hA1.i4b dL_law_604 ?_
  refine R_callVi (ctX10_make l Ω2 (xs (6 * n + 1)) (xs (6 * n + 2)) (xs (6 * n + 3)) (xs (6 * n + 4)) hA1.l10 _ _ (hit_mono (KE_hit e2) (fun r2 s2 hrs2 => ?_))) okX10_make mw_1394 hA1.l10 (cE_10 Ω2 0 _) rfl rfl (Nat.le_of_ble_eq_true rfl) rfl rfl ⟨Nat.le_of_ble_eq_true rfl, Nat.le_of_ble_eq_true rfl⟩ ⟨by have := hA.kc3; show _ ≤ 601024; omega, by have := hA.ks3; show _ ≤ 7293034; omega⟩ dL_law_605
  rw [hrs2.1, hrs2.2]
  have f29 : σ2 29 = σ1 29 := frX10_make (xs (6 * n + 1)) (xs (6 * n + 2)) (xs (6 * n + 3)) (xs (6 * n + 4)) σ1 _ _ e2 29 (by decide)
  have hA2 := hA1.frame (frX10_make (xs (6 * n + 1)) (xs (6 * n + 2)) (xs (6 * n + 3)) (xs (6 * n + 4)) σ1 _ _ e2) (by decide)
  refine R_icmp_eq (tgt := 1494) dL_law_608 (by decide) (fun _ => ?_) (fun hc => absurd rfl hc)
  exact hk Ω2 σ2 _ _ hA2 (by rw [f29]; omega) (by rw [f29]; omega) (by rw [f29]; exact hmn) hJ
set_option maxRecDepth 100000 in
set_option maxHeartbeats 4000000 in
theorem lwc_10 {l : Launch} {Ω : rO} {b sz L n : Nat} {xs : Nat → Int32} {x4 : Int32} {σ : rS} {kc ks : Nat} {J : rS → Prop} (hA : LWa Ω b sz L n xs x4 kc ks σ) (hI : ∃ r σ1 σ2, fX9_link (xs (6 * n + 1)) (xs (6 * n + 2)) (xs (6 * n + 3)) σ = some (r, σ1) ∧ fX10_link_ (xs (6 * n + 1)) (xs (6 * n + 2)) (xs (6 * n + 3)) σ1 = some (r, σ2) ∧ J σ2)
    (hk : LCont l b sz L n xs x4 kc ks σ J) : LRun l b sz x4 Ω kc ks 613 σ := by
  obtain ⟨r, σ1, σ2, e1, e2, hJ⟩ := hI
  refine R_aload_n (i := 1) dL_law_613 rfl rfl ?_
  refine R_aload_n (i := 0) dL_law_614 rfl rfl ?_
  refine R_iload (i := 4) dL_law_615 rfl ?_
  refine R_iconst (v := 1) dL_law_617 rfl ?_
  refine R_iadd dL_law_618 ?_
  refine R_sld hA.eb hA.eL hA.ex hA.i1a hA.i1b dL_law_619 ?_
  refine R_aload_n (i := 0) dL_law_620 rfl rfl ?_
  refine R_iload (i := 4) dL_law_621 rfl ?_
  refine R_iconst (v := 2) dL_law_623 rfl ?_
  refine R_iadd dL_law_624 ?_
  refine R_sld hA.eb hA.eL hA.ex hA.i2a hA.i2b dL_law_625 ?_
  refine R_aload_n (i := 0) dL_law_626 rfl rfl ?_
  refine R_iload (i := 4) dL_law_627 rfl ?_
  refine R_iconst (v := 3) dL_law_629 rfl ?_
  refine R_iadd dL_law_630 ?_
  refine R_sld hA.eb hA.eL hA.ex hA.i3a hA.i3b dL_law_631 ?_
  have hmn := mnA_link _ _ _ _ _ _ e1
  have hcl := cntF_le (σ1 29 0)
  refine A_callV (ctA_link l Ω (xs (6 * n + 1)) (xs (6 * n + 2)) (xs (6 * n + 3)) hA.l9 σ _ _ hA.wo e1) okX9_link mw_851 hA.l9 (cE_9 Ω 0 _) rfl rfl (Nat.le_of_ble_eq_true rfl) rfl rfl ⟨Nat.le_of_ble_eq_true rfl, Nat.le_of_ble_eq_true rfl⟩ ⟨by have := hA.kc3; show _ ≤ 601024; omega, by have := hA.ks3; show _ ≤ 7293034; omega⟩ dL_law_632 (fun Ω2 hE hO2 => ?_)
  have hA1 := hA.ext hE hO2
  refine R_eq (lv2 := [some (.ref b), some (rf Ω2 9 0), some (rf Ω2 10 0), some (rf Ω2 77 0), some (.int x4), none, none]) (st2 := [.int r]) (by simp only [rf, hE.a hA.l9, hE.a hA.l10, hE.a hA.l77]) rfl ?_
  refine R_aload_n (i := 2) dL_law_635 rfl rfl ?_
  refine R_aload_n (i := 0) dL_law_636 rfl rfl ?_
  refine R_iload (i := 4) dL_law_637 rfl ?_
  refine R_iconst (v := 1) dL_law_639 rfl ?_
  refine R_iadd dL_law_640 ?_
  refine R_sld hA1.eb hA1.eL hA1.ex hA1.i1a hA1.i1b dL_law_641 ?_
  refine R_aload_n (i := 0) dL_law_642 rfl rfl ?_
  refine R_iload (i := 4) dL_law_643 rfl ?_
  refine R_iconst (v := 2) dL_law_645 rfl ?_
  refine R_iadd dL_law_646 ?_
  refine R_sld hA1.eb hA1.eL hA1.ex hA1.i2a hA1.i2b dL_law_647 ?_
  refine R_aload_n (i := 0) dL_law_648 rfl rfl ?_
  refine R_iload (i := 4) dL_law_649 rfl ?_
  refine R_iconst (v := 3) dL_law_651 rfl ?_
  refine R_iadd dL_law_652 ?_
  refine R_sld hA1.eb hA1.eL hA1.ex hA1.i3a hA1.i3b dL_law_653 ?_
  refine R_callVi (ctX10_link_ l Ω2 (xs (6 * n + 1)) (xs (6 * n + 2)) (xs (6 * n + 3)) hA1.l10 _ _ (hit_mono (KE_hit e2) (fun r2 s2 hrs2 => ?_))) okX10_link_ mw_1557 hA1.l10 (cE_10 Ω2 0 _) rfl rfl (Nat.le_of_ble_eq_true rfl) rfl rfl ⟨Nat.le_of_ble_eq_true rfl, Nat.le_of_ble_eq_true rfl⟩ ⟨by have := hA.kc3; show _ ≤ 601024; omega, by have := hA.ks3; show _ ≤ 7293034; omega⟩ dL_law_654
  rw [hrs2.1, hrs2.2]
  have f29 : σ2 29 = σ1 29 := frX10_link_ (xs (6 * n + 1)) (xs (6 * n + 2)) (xs (6 * n + 3)) σ1 _ _ e2 29 (by decide)
  have hA2 := hA1.frame (frX10_link_ (xs (6 * n + 1)) (xs (6 * n + 2)) (xs (6 * n + 3)) σ1 _ _ e2) (by decide)
  refine R_icmp_eq (tgt := 1494) dL_law_657 (by decide) (fun _ => ?_) (fun hc => absurd rfl hc)
  exact hk Ω2 σ2 _ _ hA2 (by rw [f29]; omega) (by rw [f29]; omega) (by rw [f29]; exact hmn) hJ
set_option maxRecDepth 100000 in
set_option maxHeartbeats 4000000 in
theorem lwc_11 {l : Launch} {Ω : rO} {b sz L n : Nat} {xs : Nat → Int32} {x4 : Int32} {σ : rS} {kc ks : Nat} {J : rS → Prop} (hA : LWa Ω b sz L n xs x4 kc ks σ) (hI : ∃ r σ1 σ2, fX9_load (xs (6 * n + 1)) (xs (6 * n + 2)) (xs (6 * n + 3)) σ = some (r, σ1) ∧ fX10_load (xs (6 * n + 1)) (xs (6 * n + 2)) (xs (6 * n + 3)) σ1 = some (r, σ2) ∧ J σ2)
    (hk : LCont l b sz L n xs x4 kc ks σ J) : LRun l b sz x4 Ω kc ks 662 σ := by
  obtain ⟨r, σ1, σ2, e1, e2, hJ⟩ := hI
  refine R_aload_n (i := 1) dL_law_662 rfl rfl ?_
  refine R_aload_n (i := 0) dL_law_663 rfl rfl ?_
  refine R_iload (i := 4) dL_law_664 rfl ?_
  refine R_iconst (v := 1) dL_law_666 rfl ?_
  refine R_iadd dL_law_667 ?_
  refine R_sld hA.eb hA.eL hA.ex hA.i1a hA.i1b dL_law_668 ?_
  refine R_aload_n (i := 0) dL_law_669 rfl rfl ?_
  refine R_iload (i := 4) dL_law_670 rfl ?_
  refine R_iconst (v := 2) dL_law_672 rfl ?_
  refine R_iadd dL_law_673 ?_
  refine R_sld hA.eb hA.eL hA.ex hA.i2a hA.i2b dL_law_674 ?_
  refine R_aload_n (i := 0) dL_law_675 rfl rfl ?_
  refine R_iload (i := 4) dL_law_676 rfl ?_
  refine R_iconst (v := 3) dL_law_678 rfl ?_
  refine R_iadd dL_law_679 ?_
  refine R_sld hA.eb hA.eL hA.ex hA.i3a hA.i3b dL_law_680 ?_
  have hmn := mnA_load _ _ _ _ _ _ e1
  have hcl := cntF_le (σ1 29 0)
  refine A_callV (ctA_load l Ω (xs (6 * n + 1)) (xs (6 * n + 2)) (xs (6 * n + 3)) hA.l9 σ _ _ hA.wo e1) okX9_load mw_855 hA.l9 (cE_9 Ω 0 _) rfl rfl (Nat.le_of_ble_eq_true rfl) rfl rfl ⟨Nat.le_of_ble_eq_true rfl, Nat.le_of_ble_eq_true rfl⟩ ⟨by have := hA.kc3; show _ ≤ 601024; omega, by have := hA.ks3; show _ ≤ 7293034; omega⟩ dL_law_681 (fun Ω2 hE hO2 => ?_)
  have hA1 := hA.ext hE hO2
  refine R_eq (lv2 := [some (.ref b), some (rf Ω2 9 0), some (rf Ω2 10 0), some (rf Ω2 77 0), some (.int x4), none, none]) (st2 := [.int r]) (by simp only [rf, hE.a hA.l9, hE.a hA.l10, hE.a hA.l77]) rfl ?_
  refine R_aload_n (i := 2) dL_law_684 rfl rfl ?_
  refine R_aload_n (i := 0) dL_law_685 rfl rfl ?_
  refine R_iload (i := 4) dL_law_686 rfl ?_
  refine R_iconst (v := 1) dL_law_688 rfl ?_
  refine R_iadd dL_law_689 ?_
  refine R_sld hA1.eb hA1.eL hA1.ex hA1.i1a hA1.i1b dL_law_690 ?_
  refine R_aload_n (i := 0) dL_law_691 rfl rfl ?_
  refine R_iload (i := 4) dL_law_692 rfl ?_
  refine R_iconst (v := 2) dL_law_694 rfl ?_
  refine R_iadd dL_law_695 ?_
  refine R_sld hA1.eb hA1.eL hA1.ex hA1.i2a hA1.i2b dL_law_696 ?_
  refine R_aload_n (i := 0) dL_law_697 rfl rfl ?_
  refine R_iload (i := 4) dL_law_698 rfl ?_
  refine R_iconst (v := 3) dL_law_700 rfl ?_
  refine R_iadd dL_law_701 ?_
  refine R_sld hA1.eb hA1.eL hA1.ex hA1.i3a hA1.i3b dL_law_702 ?_
  refine R_callVi (ctX10_load l Ω2 (xs (6 * n + 1)) (xs (6 * n + 2)) (xs (6 * n + 3)) hA1.l10 _ _ (hit_mono (KE_hit e2) (fun r2 s2 hrs2 => ?_))) okX10_load mw_1561 hA1.l10 (cE_10 Ω2 0 _) rfl rfl (Nat.le_of_ble_eq_true rfl) rfl rfl ⟨Nat.le_of_ble_eq_true rfl, Nat.le_of_ble_eq_true rfl⟩ ⟨by have := hA.kc3; show _ ≤ 601024; omega, by have := hA.ks3; show _ ≤ 7293034; omega⟩ dL_law_703
  rw [hrs2.1, hrs2.2]
  have f29 : σ2 29 = σ1 29 := frX10_load (xs (6 * n + 1)) (xs (6 * n + 2)) (xs (6 * n + 3)) σ1 _ _ e2 29 (by decide)
  have hA2 := hA1.frame (frX10_load (xs (6 * n + 1)) (xs (6 * n + 2)) (xs (6 * n + 3)) σ1 _ _ e2) (by decide)
  refine R_icmp_eq (tgt := 1494) dL_law_706 (by decide) (fun _ => ?_) (fun hc => absurd rfl hc)
  exact hk Ω2 σ2 _ _ hA2 (by rw [f29]; omega) (by rw [f29]; omega) (by rw [f29]; exact hmn) hJ
set_option maxRecDepth 100000 in
set_option maxHeartbeats 4000000 in
theorem lwc_12 {l : Launch} {Ω : rO} {b sz L n : Nat} {xs : Nat → Int32} {x4 : Int32} {σ : rS} {kc ks : Nat} {J : rS → Prop} (hA : LWa Ω b sz L n xs x4 kc ks σ) (hI : ∃ r σ1 σ2, fX9_drop (xs (6 * n + 1)) σ = some (r, σ1) ∧ fX10_drop (xs (6 * n + 1)) σ1 = some (r, σ2) ∧ J σ2)
    (hk : LCont l b sz L n xs x4 kc ks σ J) : LRun l b sz x4 Ω kc ks 711 σ := by
  obtain ⟨r, σ1, σ2, e1, e2, hJ⟩ := hI
  refine R_aload_n (i := 1) dL_law_711 rfl rfl ?_
  refine R_aload_n (i := 0) dL_law_712 rfl rfl ?_
  refine R_iload (i := 4) dL_law_713 rfl ?_
  refine R_iconst (v := 1) dL_law_715 rfl ?_
  refine R_iadd dL_law_716 ?_
  refine R_sld hA.eb hA.eL hA.ex hA.i1a hA.i1b dL_law_717 ?_
  have hmn := mnA_drop _ _ _ _ e1
  have hcl := cntF_le (σ1 29 0)
  refine A_callV (ctA_drop l Ω (xs (6 * n + 1)) hA.l9 σ _ _ hA.wo e1) okX9_drop mw_859 hA.l9 (cE_9 Ω 0 _) rfl rfl (Nat.le_of_ble_eq_true rfl) rfl rfl ⟨Nat.le_of_ble_eq_true rfl, Nat.le_of_ble_eq_true rfl⟩ ⟨by have := hA.kc3; show _ ≤ 601024; omega, by have := hA.ks3; show _ ≤ 7293034; omega⟩ dL_law_718 (fun Ω2 hE hO2 => ?_)
  have hA1 := hA.ext hE hO2
  refine R_eq (lv2 := [some (.ref b), some (rf Ω2 9 0), some (rf Ω2 10 0), some (rf Ω2 77 0), some (.int x4), none, none]) (st2 := [.int r]) (by simp only [rf, hE.a hA.l9, hE.a hA.l10, hE.a hA.l77]) rfl ?_
  refine R_aload_n (i := 2) dL_law_721 rfl rfl ?_
  refine R_aload_n (i := 0) dL_law_722 rfl rfl ?_
  refine R_iload (i := 4) dL_law_723 rfl ?_
  refine R_iconst (v := 1) dL_law_725 rfl ?_
  refine R_iadd dL_law_726 ?_
  refine R_sld hA1.eb hA1.eL hA1.ex hA1.i1a hA1.i1b dL_law_727 ?_
  refine R_callVi (ctX10_drop l Ω2 (xs (6 * n + 1)) hA1.l10 _ _ (hit_mono (KE_hit e2) (fun r2 s2 hrs2 => ?_))) okX10_drop mw_1565 hA1.l10 (cE_10 Ω2 0 _) rfl rfl (Nat.le_of_ble_eq_true rfl) rfl rfl ⟨Nat.le_of_ble_eq_true rfl, Nat.le_of_ble_eq_true rfl⟩ ⟨by have := hA.kc3; show _ ≤ 601024; omega, by have := hA.ks3; show _ ≤ 7293034; omega⟩ dL_law_728
  rw [hrs2.1, hrs2.2]
  have f29 : σ2 29 = σ1 29 := frX10_drop (xs (6 * n + 1)) σ1 _ _ e2 29 (by decide)
  have hA2 := hA1.frame (frX10_drop (xs (6 * n + 1)) σ1 _ _ e2) (by decide)
  refine R_icmp_eq (tgt := 1494) dL_law_731 (by decide) (fun _ => ?_) (fun hc => absurd rfl hc)
  exact hk Ω2 σ2 _ _ hA2 (by rw [f29]; omega) (by rw [f29]; omega) (by rw [f29]; exact hmn) hJ
set_option maxRecDepth 100000 in
set_option maxHeartbeats 4000000 in
theorem lwc_13 {l : Launch} {Ω : rO} {b sz L n : Nat} {xs : Nat → Int32} {x4 : Int32} {σ : rS} {kc ks : Nat} {J : rS → Prop} (hA : LWa Ω b sz L n xs x4 kc ks σ) (hI : ∃ r σ1 σ2, fX9_minor  σ = some (r, σ1) ∧ fX10_minor  σ1 = some (r, σ2) ∧ J σ2)
    (hk : LCont l b sz L n xs x4 kc ks σ J) : LRun l b sz x4 Ω kc ks 736 σ := by
  obtain ⟨r, σ1, σ2, e1, e2, hJ⟩ := hI
  refine R_aload_n (i := 1) dL_law_736 rfl rfl ?_
  have hmn := mnA_minor  _ _ _ e1
  have hcl := cntF_le (σ1 29 0)
  refine A_callV (ctA_minor l Ω  hA.l9 σ _ _ hA.wo e1) okX9_minor mw_863 hA.l9 (cE_9 Ω 0 _) rfl rfl (Nat.le_of_ble_eq_true rfl) rfl rfl ⟨Nat.le_of_ble_eq_true rfl, Nat.le_of_ble_eq_true rfl⟩ ⟨by have := hA.kc3; show _ ≤ 601024; omega, by have := hA.ks3; show _ ≤ 7293034; omega⟩ dL_law_737 (fun Ω2 hE hO2 => ?_)
  have hA1 := hA.ext hE hO2
  refine R_eq (lv2 := [some (.ref b), some (rf Ω2 9 0), some (rf Ω2 10 0), some (rf Ω2 77 0), some (.int x4), none, none]) (st2 := [.int r]) (by simp only [rf, hE.a hA.l9, hE.a hA.l10, hE.a hA.l77]) rfl ?_
  refine R_aload_n (i := 2) dL_law_740 rfl rfl ?_
  refine R_callVi (ctX10_minor l Ω2  hA1.l10 _ _ (hit_mono (KE_hit e2) (fun r2 s2 hrs2 => ?_))) okX10_minor mw_1569 hA1.l10 (cE_10 Ω2 0 _) rfl rfl (Nat.le_of_ble_eq_true rfl) rfl rfl ⟨Nat.le_of_ble_eq_true rfl, Nat.le_of_ble_eq_true rfl⟩ ⟨by have := hA.kc3; show _ ≤ 601024; omega, by have := hA.ks3; show _ ≤ 7293034; omega⟩ dL_law_741
  rw [hrs2.1, hrs2.2]
  have f29 : σ2 29 = σ1 29 := frX10_minor  σ1 _ _ e2 29 (by decide)
  have hA2 := hA1.frame (frX10_minor  σ1 _ _ e2) (by decide)
  refine R_icmp_eq (tgt := 1494) dL_law_744 (by decide) (fun _ => ?_) (fun hc => absurd rfl hc)
  exact hk Ω2 σ2 _ _ hA2 (by rw [f29]; omega) (by rw [f29]; omega) (by rw [f29]; exact hmn) hJ
set_option maxRecDepth 100000 in
set_option maxHeartbeats 4000000 in
theorem lwc_14 {l : Launch} {Ω : rO} {b sz L n : Nat} {xs : Nat → Int32} {x4 : Int32} {σ : rS} {kc ks : Nat} {J : rS → Prop} (hA : LWa Ω b sz L n xs x4 kc ks σ) (hI : ∃ r σ1 σ2, fX9_major  σ = some (r, σ1) ∧ fX10_major  σ1 = some (r, σ2) ∧ J σ2)
    (hk : LCont l b sz L n xs x4 kc ks σ J) : LRun l b sz x4 Ω kc ks 749 σ := by
  obtain ⟨r, σ1, σ2, e1, e2, hJ⟩ := hI
  refine R_aload_n (i := 1) dL_law_749 rfl rfl ?_
  have hmn := mnA_major  _ _ _ e1
  have hcl := cntF_le (σ1 29 0)
  refine A_callV (ctA_major l Ω  hA.l9 σ _ _ hA.wo e1) okX9_major mw_867 hA.l9 (cE_9 Ω 0 _) rfl rfl (Nat.le_of_ble_eq_true rfl) rfl rfl ⟨Nat.le_of_ble_eq_true rfl, Nat.le_of_ble_eq_true rfl⟩ ⟨by have := hA.kc3; show _ ≤ 601024; omega, by have := hA.ks3; show _ ≤ 7293034; omega⟩ dL_law_750 (fun Ω2 hE hO2 => ?_)
  have hA1 := hA.ext hE hO2
  refine R_eq (lv2 := [some (.ref b), some (rf Ω2 9 0), some (rf Ω2 10 0), some (rf Ω2 77 0), some (.int x4), none, none]) (st2 := [.int r]) (by simp only [rf, hE.a hA.l9, hE.a hA.l10, hE.a hA.l77]) rfl ?_
  refine R_aload_n (i := 2) dL_law_753 rfl rfl ?_
  refine R_callVi (ctX10_major l Ω2  hA1.l10 _ _ (hit_mono (KE_hit e2) (fun r2 s2 hrs2 => ?_))) okX10_major mw_1573 hA1.l10 (cE_10 Ω2 0 _) rfl rfl (Nat.le_of_ble_eq_true rfl) rfl rfl ⟨Nat.le_of_ble_eq_true rfl, Nat.le_of_ble_eq_true rfl⟩ ⟨by have := hA.kc3; show _ ≤ 601024; omega, by have := hA.ks3; show _ ≤ 7293034; omega⟩ dL_law_754
  rw [hrs2.1, hrs2.2]
  have f29 : σ2 29 = σ1 29 := frX10_major  σ1 _ _ e2 29 (by decide)
  have hA2 := hA1.frame (frX10_major  σ1 _ _ e2) (by decide)
  refine R_icmp_eq (tgt := 1494) dL_law_757 (by decide) (fun _ => ?_) (fun hc => absurd rfl hc)
  exact hk Ω2 σ2 _ _ hA2 (by rw [f29]; omega) (by rw [f29]; omega) (by rw [f29]; exact hmn) hJ
set_option maxRecDepth 100000 in
set_option maxHeartbeats 4000000 in
theorem lwc_15 {l : Launch} {Ω : rO} {b sz L n : Nat} {xs : Nat → Int32} {x4 : Int32} {σ : rS} {kc ks : Nat} {J : rS → Prop} (hA : LWa Ω b sz L n xs x4 kc ks σ) (hI : ∃ r σ1 σ2, fX9_tell (xs (6 * n + 1)) σ = some (r, σ1) ∧ fX10_tell (xs (6 * n + 1)) σ1 = some (r, σ2) ∧ J σ2)
    (hk : LCont l b sz L n xs x4 kc ks σ J) : LRun l b sz x4 Ω kc ks 762 σ := by
  obtain ⟨r, σ1, σ2, e1, e2, hJ⟩ := hI
  refine R_aload_n (i := 1) dL_law_762 rfl rfl ?_
  refine R_aload_n (i := 0) dL_law_763 rfl rfl ?_
  refine R_iload (i := 4) dL_law_764 rfl ?_
  refine R_iconst (v := 1) dL_law_766 rfl ?_
  refine R_iadd dL_law_767 ?_
  refine R_sld hA.eb hA.eL hA.ex hA.i1a hA.i1b dL_law_768 ?_
  have hmn := mnA_tell _ _ _ _ e1
  have hcl := cntF_le (σ1 29 0)
  refine A_callV (ctA_tell l Ω (xs (6 * n + 1)) hA.l9 σ _ _ hA.wo e1) okX9_tell mw_871 hA.l9 (cE_9 Ω 0 _) rfl rfl (Nat.le_of_ble_eq_true rfl) rfl rfl ⟨Nat.le_of_ble_eq_true rfl, Nat.le_of_ble_eq_true rfl⟩ ⟨by have := hA.kc3; show _ ≤ 601024; omega, by have := hA.ks3; show _ ≤ 7293034; omega⟩ dL_law_769 (fun Ω2 hE hO2 => ?_)
  have hA1 := hA.ext hE hO2
  refine R_eq (lv2 := [some (.ref b), some (rf Ω2 9 0), some (rf Ω2 10 0), some (rf Ω2 77 0), some (.int x4), none, none]) (st2 := [.int r]) (by simp only [rf, hE.a hA.l9, hE.a hA.l10, hE.a hA.l77]) rfl ?_
  refine R_aload_n (i := 2) dL_law_772 rfl rfl ?_
  refine R_aload_n (i := 0) dL_law_773 rfl rfl ?_
  refine R_iload (i := 4) dL_law_774 rfl ?_
  refine R_iconst (v := 1) dL_law_776 rfl ?_
  refine R_iadd dL_law_777 ?_
  refine R_sld hA1.eb hA1.eL hA1.ex hA1.i1a hA1.i1b dL_law_778 ?_
  refine R_callVi (ctX10_tell l Ω2 (xs (6 * n + 1)) hA1.l10 _ _ (hit_mono (KE_hit e2) (fun r2 s2 hrs2 => ?_))) okX10_tell mw_1577 hA1.l10 (cE_10 Ω2 0 _) rfl rfl (Nat.le_of_ble_eq_true rfl) rfl rfl ⟨Nat.le_of_ble_eq_true rfl, Nat.le_of_ble_eq_true rfl⟩ ⟨by have := hA.kc3; show _ ≤ 601024; omega, by have := hA.ks3; show _ ≤ 7293034; omega⟩ dL_law_779
  rw [hrs2.1, hrs2.2]
  have f29 : σ2 29 = σ1 29 := frX10_tell (xs (6 * n + 1)) σ1 _ _ e2 29 (by decide)
  have hA2 := hA1.frame (frX10_tell (xs (6 * n + 1)) σ1 _ _ e2) (by decide)
  refine R_icmp_eq (tgt := 1494) dL_law_782 (by decide) (fun _ => ?_) (fun hc => absurd rfl hc)
  exact hk Ω2 σ2 _ _ hA2 (by rw [f29]; omega) (by rw [f29]; omega) (by rw [f29]; exact hmn) hJ
set_option maxRecDepth 100000 in
set_option maxHeartbeats 4000000 in
theorem lwc_16 {l : Launch} {Ω : rO} {b sz L n : Nat} {xs : Nat → Int32} {x4 : Int32} {σ : rS} {kc ks : Nat} {J : rS → Prop} (hA : LWa Ω b sz L n xs x4 kc ks σ) (hI : ∃ r σ1 σ2, fX9_ask  σ = some (r, σ1) ∧ fX10_ask  σ1 = some (r, σ2) ∧ J σ2)
    (hk : LCont l b sz L n xs x4 kc ks σ J) : LRun l b sz x4 Ω kc ks 787 σ := by
  obtain ⟨r, σ1, σ2, e1, e2, hJ⟩ := hI
  refine R_aload_n (i := 1) dL_law_787 rfl rfl ?_
  have hmn := mnA_ask  _ _ _ e1
  have hcl := cntF_le (σ1 29 0)
  refine A_callV (ctA_ask l Ω  hA.l9 σ _ _ hA.wo e1) okX9_ask mw_875 hA.l9 (cE_9 Ω 0 _) rfl rfl (Nat.le_of_ble_eq_true rfl) rfl rfl ⟨Nat.le_of_ble_eq_true rfl, Nat.le_of_ble_eq_true rfl⟩ ⟨by have := hA.kc3; show _ ≤ 601024; omega, by have := hA.ks3; show _ ≤ 7293034; omega⟩ dL_law_788 (fun Ω2 hE hO2 => ?_)
  have hA1 := hA.ext hE hO2
  refine R_eq (lv2 := [some (.ref b), some (rf Ω2 9 0), some (rf Ω2 10 0), some (rf Ω2 77 0), some (.int x4), none, none]) (st2 := [.int r]) (by simp only [rf, hE.a hA.l9, hE.a hA.l10, hE.a hA.l77]) rfl ?_
  refine R_aload_n (i := 2) dL_law_791 rfl rfl ?_
  refine R_callVi (ctX10_ask l Ω2  hA1.l10 _ _ (hit_mono (KE_hit e2) (fun r2 s2 hrs2 => ?_))) okX10_ask mw_1581 hA1.l10 (cE_10 Ω2 0 _) rfl rfl (Nat.le_of_ble_eq_true rfl) rfl rfl ⟨Nat.le_of_ble_eq_true rfl, Nat.le_of_ble_eq_true rfl⟩ ⟨by have := hA.kc3; show _ ≤ 601024; omega, by have := hA.ks3; show _ ≤ 7293034; omega⟩ dL_law_792
  rw [hrs2.1, hrs2.2]
  have f29 : σ2 29 = σ1 29 := frX10_ask  σ1 _ _ e2 29 (by decide)
  have hA2 := hA1.frame (frX10_ask  σ1 _ _ e2) (by decide)
  refine R_icmp_eq (tgt := 1494) dL_law_795 (by decide) (fun _ => ?_) (fun hc => absurd rfl hc)
  exact hk Ω2 σ2 _ _ hA2 (by rw [f29]; omega) (by rw [f29]; omega) (by rw [f29]; exact hmn) hJ
set_option maxRecDepth 100000 in
set_option maxHeartbeats 4000000 in
theorem lwc_17 {l : Launch} {Ω : rO} {b sz L n : Nat} {xs : Nat → Int32} {x4 : Int32} {σ : rS} {kc ks : Nat} {J : rS → Prop} (hA : LWa Ω b sz L n xs x4 kc ks σ) (hI : ∃ r σ1 σ2, fX9_years (xs (6 * n + 1)) ((((xs (6 * n + 2)).toInt64) <<< ((32 : Int32).toInt64 &&& 63)) ||| (((xs (6 * n + 3)).toInt64) &&& 4294967295)) σ = some (r, σ1) ∧ fX10_years (xs (6 * n + 1)) ((((xs (6 * n + 2)).toInt64) <<< ((32 : Int32).toInt64 &&& 63)) ||| (((xs (6 * n + 3)).toInt64) &&& 4294967295)) σ1 = some (r, σ2) ∧ J σ2)
    (hk : LCont l b sz L n xs x4 kc ks σ J) : LRun l b sz x4 Ω kc ks 800 σ := by
  obtain ⟨r, σ1, σ2, e1, e2, hJ⟩ := hI
  refine R_aload_n (i := 1) dL_law_800 rfl rfl ?_
  refine R_aload_n (i := 0) dL_law_801 rfl rfl ?_
  refine R_iload (i := 4) dL_law_802 rfl ?_
  refine R_iconst (v := 1) dL_law_804 rfl ?_
  refine R_iadd dL_law_805 ?_
  refine R_sld hA.eb hA.eL hA.ex hA.i1a hA.i1b dL_law_806 ?_
  refine R_aload_n (i := 0) dL_law_807 rfl rfl ?_
  refine R_iload (i := 4) dL_law_808 rfl ?_
  refine R_iconst (v := 2) dL_law_810 rfl ?_
  refine R_iadd dL_law_811 ?_
  refine R_sld hA.eb hA.eL hA.ex hA.i2a hA.i2b dL_law_812 ?_
  refine R_i2l dL_law_813 ?_
  refine R_bipush (v := 32) dL_law_814 rfl ?_
  refine R_lshl dL_law_816 ?_
  refine R_aload_n (i := 0) dL_law_817 rfl rfl ?_
  refine R_iload (i := 4) dL_law_818 rfl ?_
  refine R_iconst (v := 3) dL_law_820 rfl ?_
  refine R_iadd dL_law_821 ?_
  refine R_sld hA.eb hA.eL hA.ex hA.i3a hA.i3b dL_law_822 ?_
  refine R_i2l dL_law_823 ?_
  refine R_ldc2 (v := 4294967295) mw_1745 dL_law_824 ?_
  refine R_land dL_law_827 ?_
  refine R_lor dL_law_828 ?_
  have hmn := mn_years _ _ _ _ _ e1
  have hcl := cntF_le (σ1 29 0)
  refine A_callV (ctA_years l Ω (xs (6 * n + 1)) ((((xs (6 * n + 2)).toInt64) <<< ((32 : Int32).toInt64 &&& 63)) ||| (((xs (6 * n + 3)).toInt64) &&& 4294967295)) hA.l9 hA.n2 σ _ _ hA.wo e1) okX9_years mw_879 hA.l9 (cE_9 Ω 0 _) rfl rfl (Nat.le_of_ble_eq_true rfl) rfl rfl ⟨Nat.le_of_ble_eq_true rfl, Nat.le_of_ble_eq_true rfl⟩ ⟨by have := hA.kc3; show _ ≤ 601024; omega, by have := hA.ks3; show _ ≤ 7293034; omega⟩ dL_law_829 (fun Ω2 hE hO2 => ?_)
  have hA1 := hA.ext hE hO2
  refine R_eq (lv2 := [some (.ref b), some (rf Ω2 9 0), some (rf Ω2 10 0), some (rf Ω2 77 0), some (.int x4), none, none]) (st2 := [.int r]) (by simp only [rf, hE.a hA.l9, hE.a hA.l10, hE.a hA.l77]) rfl ?_
  refine R_aload_n (i := 2) dL_law_832 rfl rfl ?_
  refine R_aload_n (i := 0) dL_law_833 rfl rfl ?_
  refine R_iload (i := 4) dL_law_834 rfl ?_
  refine R_iconst (v := 1) dL_law_836 rfl ?_
  refine R_iadd dL_law_837 ?_
  refine R_sld hA1.eb hA1.eL hA1.ex hA1.i1a hA1.i1b dL_law_838 ?_
  refine R_aload_n (i := 0) dL_law_839 rfl rfl ?_
  refine R_iload (i := 4) dL_law_840 rfl ?_
  refine R_iconst (v := 2) dL_law_842 rfl ?_
  refine R_iadd dL_law_843 ?_
  refine R_sld hA1.eb hA1.eL hA1.ex hA1.i2a hA1.i2b dL_law_844 ?_
  refine R_i2l dL_law_845 ?_
  refine R_bipush (v := 32) dL_law_846 rfl ?_
  refine R_lshl dL_law_848 ?_
  refine R_aload_n (i := 0) dL_law_849 rfl rfl ?_
  refine R_iload (i := 4) dL_law_850 rfl ?_
  refine R_iconst (v := 3) dL_law_852 rfl ?_
  refine R_iadd dL_law_853 ?_
  refine R_sld hA1.eb hA1.eL hA1.ex hA1.i3a hA1.i3b dL_law_854 ?_
  refine R_i2l dL_law_855 ?_
  refine R_ldc2 (v := 4294967295) mw_1745 dL_law_856 ?_
  refine R_land dL_law_859 ?_
  refine R_lor dL_law_860 ?_
  refine R_callVi (ctX10_years l Ω2 (xs (6 * n + 1)) ((((xs (6 * n + 2)).toInt64) <<< ((32 : Int32).toInt64 &&& 63)) ||| (((xs (6 * n + 3)).toInt64) &&& 4294967295)) hA1.l10 _ _ (hit_mono (KE_hit e2) (fun r2 s2 hrs2 => ?_))) okX10_years mw_1585 hA1.l10 (cE_10 Ω2 0 _) rfl rfl (Nat.le_of_ble_eq_true rfl) rfl rfl ⟨Nat.le_of_ble_eq_true rfl, Nat.le_of_ble_eq_true rfl⟩ ⟨by have := hA.kc3; show _ ≤ 601024; omega, by have := hA.ks3; show _ ≤ 7293034; omega⟩ dL_law_861
  rw [hrs2.1, hrs2.2]
  have f29 : σ2 29 = σ1 29 := frX10_years (xs (6 * n + 1)) ((((xs (6 * n + 2)).toInt64) <<< ((32 : Int32).toInt64 &&& 63)) ||| (((xs (6 * n + 3)).toInt64) &&& 4294967295)) σ1 _ _ e2 29 (by decide)
  have hA2 := hA1.frame (frX10_years (xs (6 * n + 1)) ((((xs (6 * n + 2)).toInt64) <<< ((32 : Int32).toInt64 &&& 63)) ||| (((xs (6 * n + 3)).toInt64) &&& 4294967295)) σ1 _ _ e2) (by decide)
  refine R_icmp_eq (tgt := 1494) dL_law_864 (by decide) (fun _ => ?_) (fun hc => absurd rfl hc)
  exact hk Ω2 σ2 _ _ hA2 (by rw [f29]; omega) (by rw [f29]; omega) (by rw [f29]; exact hmn) hJ
set_option maxRecDepth 100000 in
set_option maxHeartbeats 4000000 in
theorem lwc_18 {l : Launch} {Ω : rO} {b sz L n : Nat} {xs : Nat → Int32} {x4 : Int32} {σ : rS} {kc ks : Nat} {J : rS → Prop} (hA : LWa Ω b sz L n xs x4 kc ks σ) (hI : ∃ r σ1 σ2, fX9_status (xs (6 * n + 1)) σ = some (r, σ1) ∧ fX10_status (xs (6 * n + 1)) σ1 = some (r, σ2) ∧ J σ2)
    (hk : LCont l b sz L n xs x4 kc ks σ J) : LRun l b sz x4 Ω kc ks 869 σ := by
  obtain ⟨r, σ1, σ2, e1, e2, hJ⟩ := hI
  refine R_aload_n (i := 1) dL_law_869 rfl rfl ?_
  refine R_aload_n (i := 0) dL_law_870 rfl rfl ?_
  refine R_iload (i := 4) dL_law_871 rfl ?_
  refine R_iconst (v := 1) dL_law_873 rfl ?_
  refine R_iadd dL_law_874 ?_
  refine R_sld hA.eb hA.eL hA.ex hA.i1a hA.i1b dL_law_875 ?_
  refine R_callVi (ctX9_status l Ω (xs (6 * n + 1)) hA.l9 _ _ (hit_mono (KE_hit e1) (fun r s hrs => ?_))) okX9_status mw_932 hA.l9 (cE_9 Ω 0 _) rfl rfl (Nat.le_of_ble_eq_true rfl) rfl rfl ⟨Nat.le_of_ble_eq_true rfl, Nat.le_of_ble_eq_true rfl⟩ ⟨hA.cl, hA.sl⟩ dL_law_876
  rw [hrs.1, hrs.2]
  have hA1 := hA.frame (frX9_status (xs (6 * n + 1)) σ _ _ e1) (by decide)
  refine R_aload_n (i := 2) dL_law_879 rfl rfl ?_
  refine R_aload_n (i := 0) dL_law_880 rfl rfl ?_
  refine R_iload (i := 4) dL_law_881 rfl ?_
  refine R_iconst (v := 1) dL_law_883 rfl ?_
  refine R_iadd dL_law_884 ?_
  refine R_sld hA1.eb hA1.eL hA1.ex hA1.i1a hA1.i1b dL_law_885 ?_
  refine R_callVi (ctX10_status l Ω (xs (6 * n + 1)) hA1.l10 _ _ (hit_mono (KE_hit e2) (fun r2 s2 hrs2 => ?_))) okX10_status mw_1600 hA1.l10 (cE_10 Ω 0 _) rfl rfl (Nat.le_of_ble_eq_true rfl) rfl rfl ⟨Nat.le_of_ble_eq_true rfl, Nat.le_of_ble_eq_true rfl⟩ ⟨hA.cl, hA.sl⟩ dL_law_886
  rw [hrs2.1, hrs2.2]
  have f29 : σ2 29 = σ1 29 := frX10_status (xs (6 * n + 1)) σ1 _ _ e2 29 (by decide)
  have hA2 := hA1.frame (frX10_status (xs (6 * n + 1)) σ1 _ _ e2) (by decide)
  refine R_icmp_eq (tgt := 1494) dL_law_889 (by decide) (fun _ => ?_) (fun hc => absurd rfl hc)
  have g29 : σ1 29 = σ 29 := frX9_status (xs (6 * n + 1)) σ _ _ e1 29 (by decide)
  exact hk Ω σ2 _ _ hA2 (by omega) (by omega) (by rw [f29, g29]; exact Nat.le_refl _) hJ
set_option maxRecDepth 100000 in
set_option maxHeartbeats 4000000 in
theorem lwc_19 {l : Launch} {Ω : rO} {b sz L n : Nat} {xs : Nat → Int32} {x4 : Int32} {σ : rS} {kc ks : Nat} {J : rS → Prop} (hA : LWa Ω b sz L n xs x4 kc ks σ) (hI : ∃ r σ1 σ2, fX9_undo  σ = some (r, σ1) ∧ fX10_undo  σ1 = some (r, σ2) ∧ J σ2)
    (hk : LCont l b sz L n xs x4 kc ks σ J) : LRun l b sz x4 Ω kc ks 894 σ := by
  obtain ⟨r, σ1, σ2, e1, e2, hJ⟩ := hI
  refine R_aload_n (i := 1) dL_law_894 rfl rfl ?_
  refine R_callVi (ctX9_undo l Ω  hA.l9 _ hA.rl _ (hit_mono (KE_hit e1) (fun r s hrs => ?_))) okX9_undo mw_936 hA.l9 (cE_9 Ω 0 _) rfl rfl (Nat.le_of_ble_eq_true rfl) rfl rfl ⟨Nat.le_of_ble_eq_true rfl, Nat.le_of_ble_eq_true rfl⟩ ⟨hA.cl, hA.sl⟩ dL_law_895
  rw [hrs.1, hrs.2]
  have hA1 := hA.frame (frX9_undo  σ _ _ e1) (by decide)
  refine R_aload_n (i := 2) dL_law_898 rfl rfl ?_
  refine R_callVi (ctX10_undo l Ω  hA1.l10 _ _ (hit_mono (KE_hit e2) (fun r2 s2 hrs2 => ?_))) okX10_undo mw_1605 hA1.l10 (cE_10 Ω 0 _) rfl rfl (Nat.le_of_ble_eq_true rfl) rfl rfl ⟨Nat.le_of_ble_eq_true rfl, Nat.le_of_ble_eq_true rfl⟩ ⟨hA.cl, hA.sl⟩ dL_law_899
  rw [hrs2.1, hrs2.2]
  have f29 : σ2 29 = σ1 29 := frX10_undo  σ1 _ _ e2 29 (by decide)
  have hA2 := hA1.frame (frX10_undo  σ1 _ _ e2) (by decide)
  refine R_icmp_eq (tgt := 1494) dL_law_902 (by decide) (fun _ => ?_) (fun hc => absurd rfl hc)
  have g29 : σ1 29 = σ 29 := frX9_undo  σ _ _ e1 29 (by decide)
  exact hk Ω σ2 _ _ hA2 (by omega) (by omega) (by rw [f29, g29]; exact Nat.le_refl _) hJ
set_option maxRecDepth 100000 in
set_option maxHeartbeats 4000000 in
theorem lwc_20 {l : Launch} {Ω : rO} {b sz L n : Nat} {xs : Nat → Int32} {x4 : Int32} {σ : rS} {kc ks : Nat} {J : rS → Prop} (hA : LWa Ω b sz L n xs x4 kc ks σ) (hI : ∃ r σ1 σ2, fX9_log (xs (6 * n + 1)) (xs (6 * n + 2)) σ = some (r, σ1) ∧ fX10_log (xs (6 * n + 1)) (xs (6 * n + 2)) σ1 = some (r, σ2) ∧ J σ2)
    (hk : LCont l b sz L n xs x4 kc ks σ J) : LRun l b sz x4 Ω kc ks 907 σ := by
  obtain ⟨r, σ1, σ2, e1, e2, hJ⟩ := hI
  refine R_aload_n (i := 1) dL_law_907 rfl rfl ?_
  refine R_aload_n (i := 0) dL_law_908 rfl rfl ?_
  refine R_iload (i := 4) dL_law_909 rfl ?_
  refine R_iconst (v := 1) dL_law_911 rfl ?_
  refine R_iadd dL_law_912 ?_
  refine R_sld hA.eb hA.eL hA.ex hA.i1a hA.i1b dL_law_913 ?_
  refine R_aload_n (i := 0) dL_law_914 rfl rfl ?_
  refine R_iload (i := 4) dL_law_915 rfl ?_
  refine R_iconst (v := 2) dL_law_917 rfl ?_
  refine R_iadd dL_law_918 ?_
  refine R_sld hA.eb hA.eL hA.ex hA.i2a hA.i2b dL_law_919 ?_
  refine R_callVi (ctX9_log l Ω (xs (6 * n + 1)) (xs (6 * n + 2)) hA.l9 _ _ (hit_mono (KE_hit e1) (fun r s hrs => ?_))) okX9_log mw_944 hA.l9 (cE_9 Ω 0 _) rfl rfl (Nat.le_of_ble_eq_true rfl) rfl rfl ⟨Nat.le_of_ble_eq_true rfl, Nat.le_of_ble_eq_true rfl⟩ ⟨hA.cl, hA.sl⟩ dL_law_920
  rw [hrs.1, hrs.2]
  have hA1 := hA.frame (frX9_log (xs (6 * n + 1)) (xs (6 * n + 2)) σ _ _ e1) (by decide)
  refine R_aload_n (i := 2) dL_law_923 rfl rfl ?_
  refine R_aload_n (i := 0) dL_law_924 rfl rfl ?_
  refine R_iload (i := 4) dL_law_925 rfl ?_
  refine R_iconst (v := 1) dL_law_927 rfl ?_
  refine R_iadd dL_law_928 ?_
  refine R_sld hA1.eb hA1.eL hA1.ex hA1.i1a hA1.i1b dL_law_929 ?_
  refine R_aload_n (i := 0) dL_law_930 rfl rfl ?_
  refine R_iload (i := 4) dL_law_931 rfl ?_
  refine R_iconst (v := 2) dL_law_933 rfl ?_
  refine R_iadd dL_law_934 ?_
  refine R_sld hA1.eb hA1.eL hA1.ex hA1.i2a hA1.i2b dL_law_935 ?_
  refine R_callVi (ctX10_log l Ω (xs (6 * n + 1)) (xs (6 * n + 2)) hA1.l10 _ _ (hit_mono (KE_hit e2) (fun r2 s2 hrs2 => ?_))) okX10_log mw_1609 hA1.l10 (cE_10 Ω 0 _) rfl rfl (Nat.le_of_ble_eq_true rfl) rfl rfl ⟨Nat.le_of_ble_eq_true rfl, Nat.le_of_ble_eq_true rfl⟩ ⟨hA.cl, hA.sl⟩ dL_law_936
  rw [hrs2.1, hrs2.2]
  have f29 : σ2 29 = σ1 29 := frX10_log (xs (6 * n + 1)) (xs (6 * n + 2)) σ1 _ _ e2 29 (by decide)
  have hA2 := hA1.frame (frX10_log (xs (6 * n + 1)) (xs (6 * n + 2)) σ1 _ _ e2) (by decide)
  refine R_icmp_eq (tgt := 1494) dL_law_939 (by decide) (fun _ => ?_) (fun hc => absurd rfl hc)
  have g29 : σ1 29 = σ 29 := frX9_log (xs (6 * n + 1)) (xs (6 * n + 2)) σ _ _ e1 29 (by decide)
  exact hk Ω σ2 _ _ hA2 (by omega) (by omega) (by rw [f29, g29]; exact Nat.le_refl _) hJ
set_option maxRecDepth 100000 in
set_option maxHeartbeats 4000000 in
theorem lwc_21 {l : Launch} {Ω : rO} {b sz L n : Nat} {xs : Nat → Int32} {x4 : Int32} {σ : rS} {kc ks : Nat} {J : rS → Prop} (hA : LWa Ω b sz L n xs x4 kc ks σ) (hI : ∃ r σ1 σ2, fX9_remembered (xs (6 * n + 1)) (xs (6 * n + 2)) σ = some (r, σ1) ∧ fX10_remembered (xs (6 * n + 1)) (xs (6 * n + 2)) σ1 = some (r, σ2) ∧ J σ2)
    (hk : LCont l b sz L n xs x4 kc ks σ J) : LRun l b sz x4 Ω kc ks 944 σ := by
  obtain ⟨r, σ1, σ2, e1, e2, hJ⟩ := hI
  refine R_aload_n (i := 1) dL_law_944 rfl rfl ?_
  refine R_aload_n (i := 0) dL_law_945 rfl rfl ?_
  refine R_iload (i := 4) dL_law_946 rfl ?_
  refine R_iconst (v := 1) dL_law_948 rfl ?_
  refine R_iadd dL_law_949 ?_
  refine R_sld hA.eb hA.eL hA.ex hA.i1a hA.i1b dL_law_950 ?_
  refine R_aload_n (i := 0) dL_law_951 rfl rfl ?_
  refine R_iload (i := 4) dL_law_952 rfl ?_
  refine R_iconst (v := 2) dL_law_954 rfl ?_
  refine R_iadd dL_law_955 ?_
  refine R_sld hA.eb hA.eL hA.ex hA.i2a hA.i2b dL_law_956 ?_
  refine R_callVi (ctX9_remembered l Ω (xs (6 * n + 1)) (xs (6 * n + 2)) hA.l9 _ _ (hit_mono (KE_hit e1) (fun r s hrs => ?_))) okX9_remembered mw_950 hA.l9 (cE_9 Ω 0 _) rfl rfl (Nat.le_of_ble_eq_true rfl) rfl rfl ⟨Nat.le_of_ble_eq_true rfl, Nat.le_of_ble_eq_true rfl⟩ ⟨hA.cl, hA.sl⟩ dL_law_957
  rw [hrs.1, hrs.2]
  have hA1 := hA.frame (frX9_remembered (xs (6 * n + 1)) (xs (6 * n + 2)) σ _ _ e1) (by decide)
  refine R_aload_n (i := 2) dL_law_960 rfl rfl ?_
  refine R_aload_n (i := 0) dL_law_961 rfl rfl ?_
  refine R_iload (i := 4) dL_law_962 rfl ?_
  refine R_iconst (v := 1) dL_law_964 rfl ?_
  refine R_iadd dL_law_965 ?_
  refine R_sld hA1.eb hA1.eL hA1.ex hA1.i1a hA1.i1b dL_law_966 ?_
  refine R_aload_n (i := 0) dL_law_967 rfl rfl ?_
  refine R_iload (i := 4) dL_law_968 rfl ?_
  refine R_iconst (v := 2) dL_law_970 rfl ?_
  refine R_iadd dL_law_971 ?_
  refine R_sld hA1.eb hA1.eL hA1.ex hA1.i2a hA1.i2b dL_law_972 ?_
  refine R_callVi (ctX10_remembered l Ω (xs (6 * n + 1)) (xs (6 * n + 2)) hA1.l10 _ _ (hit_mono (KE_hit e2) (fun r2 s2 hrs2 => ?_))) okX10_remembered mw_1647 hA1.l10 (cE_10 Ω 0 _) rfl rfl (Nat.le_of_ble_eq_true rfl) rfl rfl ⟨Nat.le_of_ble_eq_true rfl, Nat.le_of_ble_eq_true rfl⟩ ⟨hA.cl, hA.sl⟩ dL_law_973
  rw [hrs2.1, hrs2.2]
  have f29 : σ2 29 = σ1 29 := frX10_remembered (xs (6 * n + 1)) (xs (6 * n + 2)) σ1 _ _ e2 29 (by decide)
  have hA2 := hA1.frame (frX10_remembered (xs (6 * n + 1)) (xs (6 * n + 2)) σ1 _ _ e2) (by decide)
  refine R_icmp_eq (tgt := 1494) dL_law_976 (by decide) (fun _ => ?_) (fun hc => absurd rfl hc)
  have g29 : σ1 29 = σ 29 := frX9_remembered (xs (6 * n + 1)) (xs (6 * n + 2)) σ _ _ e1 29 (by decide)
  exact hk Ω σ2 _ _ hA2 (by omega) (by omega) (by rw [f29, g29]; exact Nat.le_refl _) hJ
set_option maxRecDepth 100000 in
set_option maxHeartbeats 4000000 in
theorem lwc_22 {l : Launch} {Ω : rO} {b sz L n : Nat} {xs : Nat → Int32} {x4 : Int32} {σ : rS} {kc ks : Nat} {J : rS → Prop} (hA : LWa Ω b sz L n xs x4 kc ks σ) (hI : ∃ r σ1 σ2, fX9_line (xs (6 * n + 1)) (xs (6 * n + 2)) σ = some (r, σ1) ∧ fX10_line (xs (6 * n + 1)) (xs (6 * n + 2)) σ1 = some (r, σ2) ∧ J σ2)
    (hk : LCont l b sz L n xs x4 kc ks σ J) : LRun l b sz x4 Ω kc ks 981 σ := by
  obtain ⟨r, σ1, σ2, e1, e2, hJ⟩ := hI
  refine R_aload_n (i := 1) dL_law_981 rfl rfl ?_
  refine R_aload_n (i := 0) dL_law_982 rfl rfl ?_
  refine R_iload (i := 4) dL_law_983 rfl ?_
  refine R_iconst (v := 1) dL_law_985 rfl ?_
  refine R_iadd dL_law_986 ?_
  refine R_sld hA.eb hA.eL hA.ex hA.i1a hA.i1b dL_law_987 ?_
  refine R_aload_n (i := 0) dL_law_988 rfl rfl ?_
  refine R_iload (i := 4) dL_law_989 rfl ?_
  refine R_iconst (v := 2) dL_law_991 rfl ?_
  refine R_iadd dL_law_992 ?_
  refine R_sld hA.eb hA.eL hA.ex hA.i2a hA.i2b dL_law_993 ?_
  refine R_callVi (ctX9_line l Ω (xs (6 * n + 1)) (xs (6 * n + 2)) hA.l9 _ _ (hit_mono (KE_hit e1) (fun r s hrs => ?_))) okX9_line mw_954 hA.l9 (cE_9 Ω 0 _) rfl rfl (Nat.le_of_ble_eq_true rfl) rfl rfl ⟨Nat.le_of_ble_eq_true rfl, Nat.le_of_ble_eq_true rfl⟩ ⟨hA.cl, hA.sl⟩ dL_law_994
  rw [hrs.1, hrs.2]
  have hA1 := hA.frame (frX9_line (xs (6 * n + 1)) (xs (6 * n + 2)) σ _ _ e1) (by decide)
  refine R_aload_n (i := 2) dL_law_997 rfl rfl ?_
  refine R_aload_n (i := 0) dL_law_998 rfl rfl ?_
  refine R_iload (i := 4) dL_law_999 rfl ?_
  refine R_iconst (v := 1) dL_law_1001 rfl ?_
  refine R_iadd dL_law_1002 ?_
  refine R_sld hA1.eb hA1.eL hA1.ex hA1.i1a hA1.i1b dL_law_1003 ?_
  refine R_aload_n (i := 0) dL_law_1004 rfl rfl ?_
  refine R_iload (i := 4) dL_law_1005 rfl ?_
  refine R_iconst (v := 2) dL_law_1007 rfl ?_
  refine R_iadd dL_law_1008 ?_
  refine R_sld hA1.eb hA1.eL hA1.ex hA1.i2a hA1.i2b dL_law_1009 ?_
  refine R_callVi (ctX10_line l Ω (xs (6 * n + 1)) (xs (6 * n + 2)) hA1.l10 _ _ (hit_mono (KE_hit e2) (fun r2 s2 hrs2 => ?_))) okX10_line mw_1651 hA1.l10 (cE_10 Ω 0 _) rfl rfl (Nat.le_of_ble_eq_true rfl) rfl rfl ⟨Nat.le_of_ble_eq_true rfl, Nat.le_of_ble_eq_true rfl⟩ ⟨hA.cl, hA.sl⟩ dL_law_1010
  rw [hrs2.1, hrs2.2]
  have f29 : σ2 29 = σ1 29 := frX10_line (xs (6 * n + 1)) (xs (6 * n + 2)) σ1 _ _ e2 29 (by decide)
  have hA2 := hA1.frame (frX10_line (xs (6 * n + 1)) (xs (6 * n + 2)) σ1 _ _ e2) (by decide)
  refine R_icmp_eq (tgt := 1494) dL_law_1013 (by decide) (fun _ => ?_) (fun hc => absurd rfl hc)
  have g29 : σ1 29 = σ 29 := frX9_line (xs (6 * n + 1)) (xs (6 * n + 2)) σ _ _ e1 29 (by decide)
  exact hk Ω σ2 _ _ hA2 (by omega) (by omega) (by rw [f29, g29]; exact Nat.le_refl _) hJ
set_option maxRecDepth 100000 in
set_option maxHeartbeats 4000000 in
theorem lwc_23 {l : Launch} {Ω : rO} {b sz L n : Nat} {xs : Nat → Int32} {x4 : Int32} {σ : rS} {kc ks : Nat} {J : rS → Prop} (hA : LWa Ω b sz L n xs x4 kc ks σ) (hI : ∃ r σ1 σ2, fX9_would (if xs (6 * n + 1) = 0 then 0 else 1) (xs (6 * n + 2)) σ = some (r, σ1) ∧ fX10_would (if xs (6 * n + 1) = 0 then 0 else 1) (xs (6 * n + 2)) σ1 = some (r, σ2) ∧ J σ2)
    (hk : LCont l b sz L n xs x4 kc ks σ J) : LRun l b sz x4 Ω kc ks 1018 σ := by
  obtain ⟨r, σ1, σ2, e1, e2, hJ⟩ := hI
  by_cases hz : xs (6 * n + 1) = 0
  · rw [if_pos hz] at e1 e2
    refine R_aload_n (i := 1) dL_law_1018 rfl rfl ?_
    refine R_aload_n (i := 0) dL_law_1019 rfl rfl ?_
    refine R_iload (i := 4) dL_law_1020 rfl ?_
    refine R_iconst (v := 1) dL_law_1022 rfl ?_
    refine R_iadd dL_law_1023 ?_
    refine R_sld hA.eb hA.eL hA.ex hA.i1a hA.i1b dL_law_1024 ?_
    refine R_if_eq (tgt := 1032) dL_law_1025 (by decide) (fun hc => ?_) (fun hc => ?_)
    rotate_left
    · exact absurd hz hc
    refine R_iconst (v := 0) dL_law_1032 rfl ?_
    refine R_aload_n (i := 0) dL_law_1033 rfl rfl ?_
    refine R_iload (i := 4) dL_law_1034 rfl ?_
    refine R_iconst (v := 2) dL_law_1036 rfl ?_
    refine R_iadd dL_law_1037 ?_
    refine R_sld hA.eb hA.eL hA.ex hA.i2a hA.i2b dL_law_1038 ?_
    refine R_callVi (ctX9_would l Ω 0 (xs (6 * n + 2)) hA.l9 _ _ (hit_mono (KE_hit e1) (fun r s hrs => ?_))) okX9_would mw_958 hA.l9 (cE_9 Ω 0 _) rfl rfl (Nat.le_of_ble_eq_true rfl) rfl rfl ⟨Nat.le_of_ble_eq_true rfl, Nat.le_of_ble_eq_true rfl⟩ ⟨hA.cl, hA.sl⟩ dL_law_1039
    rw [hrs.1, hrs.2]
    have hA1 := hA.frame (frX9_would 0 (xs (6 * n + 2)) σ _ _ e1) (by decide)
    refine R_aload_n (i := 2) dL_law_1042 rfl rfl ?_
    refine R_aload_n (i := 0) dL_law_1043 rfl rfl ?_
    refine R_iload (i := 4) dL_law_1044 rfl ?_
    refine R_iconst (v := 1) dL_law_1046 rfl ?_
    refine R_iadd dL_law_1047 ?_
    refine R_sld hA1.eb hA1.eL hA1.ex hA1.i1a hA1.i1b dL_law_1048 ?_
    refine R_if_eq (tgt := 1056) dL_law_1049 (by decide) (fun hc => ?_) (fun hc => ?_)
    rotate_left
    · exact absurd hz hc
    refine R_iconst (v := 0) dL_law_1056 rfl ?_
    refine R_aload_n (i := 0) dL_law_1057 rfl rfl ?_
    refine R_iload (i := 4) dL_law_1058 rfl ?_
    refine R_iconst (v := 2) dL_law_1060 rfl ?_
    refine R_iadd dL_law_1061 ?_
    refine R_sld hA1.eb hA1.eL hA1.ex hA1.i2a hA1.i2b dL_law_1062 ?_
    refine R_callVi (ctX10_would l Ω 0 (xs (6 * n + 2)) hA1.l10 _ _ (hit_mono (KE_hit e2) (fun r2 s2 hrs2 => ?_))) okX10_would mw_1655 hA1.l10 (cE_10 Ω 0 _) rfl rfl (Nat.le_of_ble_eq_true rfl) rfl rfl ⟨Nat.le_of_ble_eq_true rfl, Nat.le_of_ble_eq_true rfl⟩ ⟨hA.cl, hA.sl⟩ dL_law_1063
    rw [hrs2.1, hrs2.2]
    have f29 : σ2 29 = σ1 29 := frX10_would 0 (xs (6 * n + 2)) σ1 _ _ e2 29 (by decide)
    have hA2 := hA1.frame (frX10_would 0 (xs (6 * n + 2)) σ1 _ _ e2) (by decide)
    refine R_icmp_eq (tgt := 1494) dL_law_1066 (by decide) (fun _ => ?_) (fun hc => absurd rfl hc)
    have g29 : σ1 29 = σ 29 := frX9_would 0 (xs (6 * n + 2)) σ _ _ e1 29 (by decide)
    exact hk Ω σ2 _ _ hA2 (by omega) (by omega) (by rw [f29, g29]; exact Nat.le_refl _) hJ
  · rw [if_neg hz] at e1 e2
    refine R_aload_n (i := 1) dL_law_1018 rfl rfl ?_
    refine R_aload_n (i := 0) dL_law_1019 rfl rfl ?_
    refine R_iload (i := 4) dL_law_1020 rfl ?_
    refine R_iconst (v := 1) dL_law_1022 rfl ?_
    refine R_iadd dL_law_1023 ?_
    refine R_sld hA.eb hA.eL hA.ex hA.i1a hA.i1b dL_law_1024 ?_
    refine R_if_eq (tgt := 1032) dL_law_1025 (by decide) (fun hc => ?_) (fun hc => ?_)
    · exact absurd hc hz
    refine R_iconst (v := 1) dL_law_1028 rfl ?_
    refine R_goto (tgt := 1033) dL_law_1029 (by decide) ?_
    refine R_aload_n (i := 0) dL_law_1033 rfl rfl ?_
    refine R_iload (i := 4) dL_law_1034 rfl ?_
    refine R_iconst (v := 2) dL_law_1036 rfl ?_
    refine R_iadd dL_law_1037 ?_
    refine R_sld hA.eb hA.eL hA.ex hA.i2a hA.i2b dL_law_1038 ?_
    refine R_callVi (ctX9_would l Ω 1 (xs (6 * n + 2)) hA.l9 _ _ (hit_mono (KE_hit e1) (fun r s hrs => ?_))) okX9_would mw_958 hA.l9 (cE_9 Ω 0 _) rfl rfl (Nat.le_of_ble_eq_true rfl) rfl rfl ⟨Nat.le_of_ble_eq_true rfl, Nat.le_of_ble_eq_true rfl⟩ ⟨hA.cl, hA.sl⟩ dL_law_1039
    rw [hrs.1, hrs.2]
    have hA1 := hA.frame (frX9_would 1 (xs (6 * n + 2)) σ _ _ e1) (by decide)
    refine R_aload_n (i := 2) dL_law_1042 rfl rfl ?_
    refine R_aload_n (i := 0) dL_law_1043 rfl rfl ?_
    refine R_iload (i := 4) dL_law_1044 rfl ?_
    refine R_iconst (v := 1) dL_law_1046 rfl ?_
    refine R_iadd dL_law_1047 ?_
    refine R_sld hA1.eb hA1.eL hA1.ex hA1.i1a hA1.i1b dL_law_1048 ?_
    refine R_if_eq (tgt := 1056) dL_law_1049 (by decide) (fun hc => ?_) (fun hc => ?_)
    · exact absurd hc hz
    refine R_iconst (v := 1) dL_law_1052 rfl ?_
    refine R_goto (tgt := 1057) dL_law_1053 (by decide) ?_
    refine R_aload_n (i := 0) dL_law_1057 rfl rfl ?_
    refine R_iload (i := 4) dL_law_1058 rfl ?_
    refine R_iconst (v := 2) dL_law_1060 rfl ?_
    refine R_iadd dL_law_1061 ?_
    refine R_sld hA1.eb hA1.eL hA1.ex hA1.i2a hA1.i2b dL_law_1062 ?_
    refine R_callVi (ctX10_would l Ω 1 (xs (6 * n + 2)) hA1.l10 _ _ (hit_mono (KE_hit e2) (fun r2 s2 hrs2 => ?_))) okX10_would mw_1655 hA1.l10 (cE_10 Ω 0 _) rfl rfl (Nat.le_of_ble_eq_true rfl) rfl rfl ⟨Nat.le_of_ble_eq_true rfl, Nat.le_of_ble_eq_true rfl⟩ ⟨hA.cl, hA.sl⟩ dL_law_1063
    rw [hrs2.1, hrs2.2]
    have f29 : σ2 29 = σ1 29 := frX10_would 1 (xs (6 * n + 2)) σ1 _ _ e2 29 (by decide)
    have hA2 := hA1.frame (frX10_would 1 (xs (6 * n + 2)) σ1 _ _ e2) (by decide)
    refine R_icmp_eq (tgt := 1494) dL_law_1066 (by decide) (fun _ => ?_) (fun hc => absurd rfl hc)
    have g29 : σ1 29 = σ 29 := frX9_would 1 (xs (6 * n + 2)) σ _ _ e1 29 (by decide)
    exact hk Ω σ2 _ _ hA2 (by omega) (by omega) (by rw [f29, g29]; exact Nat.le_refl _) hJ
set_option maxRecDepth 100000 in
set_option maxHeartbeats 4000000 in
theorem lwc_24 {l : Launch} {Ω : rO} {b sz L n : Nat} {xs : Nat → Int32} {x4 : Int32} {σ : rS} {kc ks : Nat} {J : rS → Prop} (hA : LWa Ω b sz L n xs x4 kc ks σ) (hI : ∃ r σ1 σ2, fX9_path (xs (6 * n + 1)) (xs (6 * n + 2)) σ = some (r, σ1) ∧ fX10_path (xs (6 * n + 1)) (xs (6 * n + 2)) σ1 = some (r, σ2) ∧ J σ2)
    (hk : LCont l b sz L n xs x4 kc ks σ J) : LRun l b sz x4 Ω kc ks 1071 σ := by
  obtain ⟨r, σ1, σ2, e1, e2, hJ⟩ := hI
  refine R_aload_n (i := 1) dL_law_1071 rfl rfl ?_
  refine R_aload_n (i := 0) dL_law_1072 rfl rfl ?_
  refine R_iload (i := 4) dL_law_1073 rfl ?_
  refine R_iconst (v := 1) dL_law_1075 rfl ?_
  refine R_iadd dL_law_1076 ?_
  refine R_sld hA.eb hA.eL hA.ex hA.i1a hA.i1b dL_law_1077 ?_
  refine R_aload_n (i := 0) dL_law_1078 rfl rfl ?_
  refine R_iload (i := 4) dL_law_1079 rfl ?_
  refine R_iconst (v := 2) dL_law_1081 rfl ?_
  refine R_iadd dL_law_1082 ?_
  refine R_sld hA.eb hA.eL hA.ex hA.i2a hA.i2b dL_law_1083 ?_
  refine R_callVi (ctX9_path l Ω (xs (6 * n + 1)) (xs (6 * n + 2)) hA.l9 _ _ (hit_mono (KE_hit e1) (fun r s hrs => ?_))) okX9_path mw_965 hA.l9 (cE_9 Ω 0 _) rfl rfl (Nat.le_of_ble_eq_true rfl) rfl rfl ⟨Nat.le_of_ble_eq_true rfl, Nat.le_of_ble_eq_true rfl⟩ ⟨hA.cl, hA.sl⟩ dL_law_1084
  rw [hrs.1, hrs.2]
  have hA1 := hA.frame (frX9_path (xs (6 * n + 1)) (xs (6 * n + 2)) σ _ _ e1) (by decide)
  refine R_aload_n (i := 2) dL_law_1087 rfl rfl ?_
  refine R_aload_n (i := 0) dL_law_1088 rfl rfl ?_
  refine R_iload (i := 4) dL_law_1089 rfl ?_
  refine R_iconst (v := 1) dL_law_1091 rfl ?_
  refine R_iadd dL_law_1092 ?_
  refine R_sld hA1.eb hA1.eL hA1.ex hA1.i1a hA1.i1b dL_law_1093 ?_
  refine R_aload_n (i := 0) dL_law_1094 rfl rfl ?_
  refine R_iload (i := 4) dL_law_1095 rfl ?_
  refine R_iconst (v := 2) dL_law_1097 rfl ?_
  refine R_iadd dL_law_1098 ?_
  refine R_sld hA1.eb hA1.eL hA1.ex hA1.i2a hA1.i2b dL_law_1099 ?_
  refine R_callVi (ctX10_path l Ω (xs (6 * n + 1)) (xs (6 * n + 2)) hA1.l10 _ _ (hit_mono (KE_hit e2) (fun r2 s2 hrs2 => ?_))) okX10_path mw_1659 hA1.l10 (cE_10 Ω 0 _) rfl rfl (Nat.le_of_ble_eq_true rfl) rfl rfl ⟨Nat.le_of_ble_eq_true rfl, Nat.le_of_ble_eq_true rfl⟩ ⟨hA.cl, hA.sl⟩ dL_law_1100
  rw [hrs2.1, hrs2.2]
  have f29 : σ2 29 = σ1 29 := frX10_path (xs (6 * n + 1)) (xs (6 * n + 2)) σ1 _ _ e2 29 (by decide)
  have hA2 := hA1.frame (frX10_path (xs (6 * n + 1)) (xs (6 * n + 2)) σ1 _ _ e2) (by decide)
  refine R_icmp_eq (tgt := 1494) dL_law_1103 (by decide) (fun _ => ?_) (fun hc => absurd rfl hc)
  have g29 : σ1 29 = σ 29 := frX9_path (xs (6 * n + 1)) (xs (6 * n + 2)) σ _ _ e1 29 (by decide)
  exact hk Ω σ2 _ _ hA2 (by omega) (by omega) (by rw [f29, g29]; exact Nat.le_refl _) hJ
set_option maxRecDepth 100000 in
set_option maxHeartbeats 4000000 in
theorem lwc_25 {l : Launch} {Ω : rO} {b sz L n : Nat} {xs : Nat → Int32} {x4 : Int32} {σ : rS} {kc ks : Nat} {J : rS → Prop} (hA : LWa Ω b sz L n xs x4 kc ks σ) (hI : ∃ r σ1 σ2, fX9_alone (xs (6 * n + 1)) (xs (6 * n + 2)) σ = some (r, σ1) ∧ fX10_alone (xs (6 * n + 1)) (xs (6 * n + 2)) σ1 = some (r, σ2) ∧ J σ2)
    (hk : LCont l b sz L n xs x4 kc ks σ J) : LRun l b sz x4 Ω kc ks 1108 σ := by
  obtain ⟨r, σ1, σ2, e1, e2, hJ⟩ := hI
  refine R_aload_n (i := 1) dL_law_1108 rfl rfl ?_
  refine R_aload_n (i := 0) dL_law_1109 rfl rfl ?_
  refine R_iload (i := 4) dL_law_1110 rfl ?_
  refine R_iconst (v := 1) dL_law_1112 rfl ?_
  refine R_iadd dL_law_1113 ?_
  refine R_sld hA.eb hA.eL hA.ex hA.i1a hA.i1b dL_law_1114 ?_
  refine R_aload_n (i := 0) dL_law_1115 rfl rfl ?_
  refine R_iload (i := 4) dL_law_1116 rfl ?_
  refine R_iconst (v := 2) dL_law_1118 rfl ?_
  refine R_iadd dL_law_1119 ?_
  refine R_sld hA.eb hA.eL hA.ex hA.i2a hA.i2b dL_law_1120 ?_
  refine R_callVi (ctX9_alone l Ω (xs (6 * n + 1)) (xs (6 * n + 2)) hA.l9 _ _ (hit_mono (KE_hit e1) (fun r s hrs => ?_))) okX9_alone mw_981 hA.l9 (cE_9 Ω 0 _) rfl rfl (Nat.le_of_ble_eq_true rfl) rfl rfl ⟨Nat.le_of_ble_eq_true rfl, Nat.le_of_ble_eq_true rfl⟩ ⟨hA.cl, hA.sl⟩ dL_law_1121
  rw [hrs.1, hrs.2]
  have hA1 := hA.frame (frX9_alone (xs (6 * n + 1)) (xs (6 * n + 2)) σ _ _ e1) (by decide)
  refine R_aload_n (i := 2) dL_law_1124 rfl rfl ?_
  refine R_aload_n (i := 0) dL_law_1125 rfl rfl ?_
  refine R_iload (i := 4) dL_law_1126 rfl ?_
  refine R_iconst (v := 1) dL_law_1128 rfl ?_
  refine R_iadd dL_law_1129 ?_
  refine R_sld hA1.eb hA1.eL hA1.ex hA1.i1a hA1.i1b dL_law_1130 ?_
  refine R_aload_n (i := 0) dL_law_1131 rfl rfl ?_
  refine R_iload (i := 4) dL_law_1132 rfl ?_
  refine R_iconst (v := 2) dL_law_1134 rfl ?_
  refine R_iadd dL_law_1135 ?_
  refine R_sld hA1.eb hA1.eL hA1.ex hA1.i2a hA1.i2b dL_law_1136 ?_
  refine R_callVi (ctX10_alone l Ω (xs (6 * n + 1)) (xs (6 * n + 2)) hA1.l10 _ _ (hit_mono (KE_hit e2) (fun r2 s2 hrs2 => ?_))) okX10_alone mw_1671 hA1.l10 (cE_10 Ω 0 _) rfl rfl (Nat.le_of_ble_eq_true rfl) rfl rfl ⟨Nat.le_of_ble_eq_true rfl, Nat.le_of_ble_eq_true rfl⟩ ⟨hA.cl, hA.sl⟩ dL_law_1137
  rw [hrs2.1, hrs2.2]
  have f29 : σ2 29 = σ1 29 := frX10_alone (xs (6 * n + 1)) (xs (6 * n + 2)) σ1 _ _ e2 29 (by decide)
  have hA2 := hA1.frame (frX10_alone (xs (6 * n + 1)) (xs (6 * n + 2)) σ1 _ _ e2) (by decide)
  refine R_icmp_eq (tgt := 1494) dL_law_1140 (by decide) (fun _ => ?_) (fun hc => absurd rfl hc)
  have g29 : σ1 29 = σ 29 := frX9_alone (xs (6 * n + 1)) (xs (6 * n + 2)) σ _ _ e1 29 (by decide)
  exact hk Ω σ2 _ _ hA2 (by omega) (by omega) (by rw [f29, g29]; exact Nat.le_refl _) hJ
set_option maxRecDepth 100000 in
set_option maxHeartbeats 4000000 in
theorem lwc_26 {l : Launch} {Ω : rO} {b sz L n : Nat} {xs : Nat → Int32} {x4 : Int32} {σ : rS} {kc ks : Nat} {J : rS → Prop} (hA : LWa Ω b sz L n xs x4 kc ks σ) (hI : ∃ r σ1 σ2, fX9_holders (xs (6 * n + 1)) σ = some (r, σ1) ∧ fX10_holders (xs (6 * n + 1)) σ1 = some (r, σ2) ∧ J σ2)
    (hk : LCont l b sz L n xs x4 kc ks σ J) : LRun l b sz x4 Ω kc ks 1145 σ := by
  obtain ⟨r, σ1, σ2, e1, e2, hJ⟩ := hI
  refine R_aload_n (i := 1) dL_law_1145 rfl rfl ?_
  refine R_aload_n (i := 0) dL_law_1146 rfl rfl ?_
  refine R_iload (i := 4) dL_law_1147 rfl ?_
  refine R_iconst (v := 1) dL_law_1149 rfl ?_
  refine R_iadd dL_law_1150 ?_
  refine R_sld hA.eb hA.eL hA.ex hA.i1a hA.i1b dL_law_1151 ?_
  refine R_callVi (ctX9_holders l Ω (xs (6 * n + 1)) hA.l9 _ _ (hit_mono (KE_hit e1) (fun r s hrs => ?_))) okX9_holders mw_991 hA.l9 (cE_9 Ω 0 _) rfl rfl (Nat.le_of_ble_eq_true rfl) rfl rfl ⟨Nat.le_of_ble_eq_true rfl, Nat.le_of_ble_eq_true rfl⟩ ⟨hA.cl, hA.sl⟩ dL_law_1152
  rw [hrs.1, hrs.2]
  have hA1 := hA.frame (frX9_holders (xs (6 * n + 1)) σ _ _ e1) (by decide)
  refine R_aload_n (i := 2) dL_law_1155 rfl rfl ?_
  refine R_aload_n (i := 0) dL_law_1156 rfl rfl ?_
  refine R_iload (i := 4) dL_law_1157 rfl ?_
  refine R_iconst (v := 1) dL_law_1159 rfl ?_
  refine R_iadd dL_law_1160 ?_
  refine R_sld hA1.eb hA1.eL hA1.ex hA1.i1a hA1.i1b dL_law_1161 ?_
  refine R_callVi (ctX10_holders l Ω (xs (6 * n + 1)) hA1.l10 _ _ (hit_mono (KE_hit e2) (fun r2 s2 hrs2 => ?_))) okX10_holders mw_1679 hA1.l10 (cE_10 Ω 0 _) rfl rfl (Nat.le_of_ble_eq_true rfl) rfl rfl ⟨Nat.le_of_ble_eq_true rfl, Nat.le_of_ble_eq_true rfl⟩ ⟨hA.cl, hA.sl⟩ dL_law_1162
  rw [hrs2.1, hrs2.2]
  have f29 : σ2 29 = σ1 29 := frX10_holders (xs (6 * n + 1)) σ1 _ _ e2 29 (by decide)
  have hA2 := hA1.frame (frX10_holders (xs (6 * n + 1)) σ1 _ _ e2) (by decide)
  refine R_icmp_eq (tgt := 1494) dL_law_1165 (by decide) (fun _ => ?_) (fun hc => absurd rfl hc)
  have g29 : σ1 29 = σ 29 := frX9_holders (xs (6 * n + 1)) σ _ _ e1 29 (by decide)
  exact hk Ω σ2 _ _ hA2 (by omega) (by omega) (by rw [f29, g29]; exact Nat.le_refl _) hJ
set_option maxRecDepth 100000 in
set_option maxHeartbeats 4000000 in
theorem lwc_27 {l : Launch} {Ω : rO} {b sz L n : Nat} {xs : Nat → Int32} {x4 : Int32} {σ : rS} {kc ks : Nat} {J : rS → Prop} (hA : LWa Ω b sz L n xs x4 kc ks σ) (hI : ∃ r σ1 σ2, fX9_round (xs (6 * n + 1)) σ = some (r, σ1) ∧ fX10_round (xs (6 * n + 1)) σ1 = some (r, σ2) ∧ J σ2)
    (hk : LCont l b sz L n xs x4 kc ks σ J) : LRun l b sz x4 Ω kc ks 1170 σ := by
  obtain ⟨r, σ1, σ2, e1, e2, hJ⟩ := hI
  refine R_aload_n (i := 1) dL_law_1170 rfl rfl ?_
  refine R_aload_n (i := 0) dL_law_1171 rfl rfl ?_
  refine R_iload (i := 4) dL_law_1172 rfl ?_
  refine R_iconst (v := 1) dL_law_1174 rfl ?_
  refine R_iadd dL_law_1175 ?_
  refine R_sld hA.eb hA.eL hA.ex hA.i1a hA.i1b dL_law_1176 ?_
  refine R_callVi (ctX9_round l Ω (xs (6 * n + 1)) hA.l9 _ _ (hit_mono (KE_hit e1) (fun r s hrs => ?_))) okX9_round mw_999 hA.l9 (cE_9 Ω 0 _) rfl rfl (Nat.le_of_ble_eq_true rfl) rfl rfl ⟨Nat.le_of_ble_eq_true rfl, Nat.le_of_ble_eq_true rfl⟩ ⟨hA.cl, hA.sl⟩ dL_law_1177
  rw [hrs.1, hrs.2]
  have hA1 := hA.frame (frX9_round (xs (6 * n + 1)) σ _ _ e1) (by decide)
  refine R_aload_n (i := 2) dL_law_1180 rfl rfl ?_
  refine R_aload_n (i := 0) dL_law_1181 rfl rfl ?_
  refine R_iload (i := 4) dL_law_1182 rfl ?_
  refine R_iconst (v := 1) dL_law_1184 rfl ?_
  refine R_iadd dL_law_1185 ?_
  refine R_sld hA1.eb hA1.eL hA1.ex hA1.i1a hA1.i1b dL_law_1186 ?_
  refine R_callVi (ctX10_round l Ω (xs (6 * n + 1)) hA1.l10 _ _ (hit_mono (KE_hit e2) (fun r2 s2 hrs2 => ?_))) okX10_round mw_1683 hA1.l10 (cE_10 Ω 0 _) rfl rfl (Nat.le_of_ble_eq_true rfl) rfl rfl ⟨Nat.le_of_ble_eq_true rfl, Nat.le_of_ble_eq_true rfl⟩ ⟨hA.cl, hA.sl⟩ dL_law_1187
  rw [hrs2.1, hrs2.2]
  have f29 : σ2 29 = σ1 29 := frX10_round (xs (6 * n + 1)) σ1 _ _ e2 29 (by decide)
  have hA2 := hA1.frame (frX10_round (xs (6 * n + 1)) σ1 _ _ e2) (by decide)
  refine R_icmp_eq (tgt := 1494) dL_law_1190 (by decide) (fun _ => ?_) (fun hc => absurd rfl hc)
  have g29 : σ1 29 = σ 29 := frX9_round (xs (6 * n + 1)) σ _ _ e1 29 (by decide)
  exact hk Ω σ2 _ _ hA2 (by omega) (by omega) (by rw [f29, g29]; exact Nat.le_refl _) hJ
set_option maxRecDepth 100000 in
set_option maxHeartbeats 4000000 in
theorem lwc_28 {l : Launch} {Ω : rO} {b sz L n : Nat} {xs : Nat → Int32} {x4 : Int32} {σ : rS} {kc ks : Nat} {J : rS → Prop} (hA : LWa Ω b sz L n xs x4 kc ks σ) (hI : ∃ r σ1 σ2, fX9_room (xs (6 * n + 1)) σ = some (r, σ1) ∧ fX10_room (xs (6 * n + 1)) σ1 = some (r, σ2) ∧ J σ2)
    (hk : LCont l b sz L n xs x4 kc ks σ J) : LRun l b sz x4 Ω kc ks 1195 σ := by
  obtain ⟨r, σ1, σ2, e1, e2, hJ⟩ := hI
  refine R_aload_n (i := 1) dL_law_1195 rfl rfl ?_
  refine R_aload_n (i := 0) dL_law_1196 rfl rfl ?_
  refine R_iload (i := 4) dL_law_1197 rfl ?_
  refine R_iconst (v := 1) dL_law_1199 rfl ?_
  refine R_iadd dL_law_1200 ?_
  refine R_sld hA.eb hA.eL hA.ex hA.i1a hA.i1b dL_law_1201 ?_
  refine R_callVi (ctX9_room l Ω (xs (6 * n + 1)) hA.l9 _ _ (hit_mono (KE_hit e1) (fun r s hrs => ?_))) okX9_room mw_1007 hA.l9 (cE_9 Ω 0 _) rfl rfl (Nat.le_of_ble_eq_true rfl) rfl rfl ⟨Nat.le_of_ble_eq_true rfl, Nat.le_of_ble_eq_true rfl⟩ ⟨hA.cl, hA.sl⟩ dL_law_1202
  rw [hrs.1, hrs.2]
  have hA1 := hA.frame (frX9_room (xs (6 * n + 1)) σ _ _ e1) (by decide)
  refine R_aload_n (i := 2) dL_law_1205 rfl rfl ?_
  refine R_aload_n (i := 0) dL_law_1206 rfl rfl ?_
  refine R_iload (i := 4) dL_law_1207 rfl ?_
  refine R_iconst (v := 1) dL_law_1209 rfl ?_
  refine R_iadd dL_law_1210 ?_
  refine R_sld hA1.eb hA1.eL hA1.ex hA1.i1a hA1.i1b dL_law_1211 ?_
  refine R_callVi (ctX10_room l Ω (xs (6 * n + 1)) hA1.l10 _ _ (hit_mono (KE_hit e2) (fun r2 s2 hrs2 => ?_))) okX10_room mw_1687 hA1.l10 (cE_10 Ω 0 _) rfl rfl (Nat.le_of_ble_eq_true rfl) rfl rfl ⟨Nat.le_of_ble_eq_true rfl, Nat.le_of_ble_eq_true rfl⟩ ⟨hA.cl, hA.sl⟩ dL_law_1212
  rw [hrs2.1, hrs2.2]
  have f29 : σ2 29 = σ1 29 := frX10_room (xs (6 * n + 1)) σ1 _ _ e2 29 (by decide)
  have hA2 := hA1.frame (frX10_room (xs (6 * n + 1)) σ1 _ _ e2) (by decide)
  refine R_icmp_eq (tgt := 1494) dL_law_1215 (by decide) (fun _ => ?_) (fun hc => absurd rfl hc)
  have g29 : σ1 29 = σ 29 := frX9_room (xs (6 * n + 1)) σ _ _ e1 29 (by decide)
  exact hk Ω σ2 _ _ hA2 (by omega) (by omega) (by rw [f29, g29]; exact Nat.le_refl _) hJ
set_option maxRecDepth 100000 in
set_option maxHeartbeats 4000000 in
theorem lwc_29 {l : Launch} {Ω : rO} {b sz L n : Nat} {xs : Nat → Int32} {x4 : Int32} {σ : rS} {kc ks : Nat} {J : rS → Prop} (hA : LWa Ω b sz L n xs x4 kc ks σ) (hI : ∃ r σ1 σ2, fX9_alike (xs (6 * n + 1)) (xs (6 * n + 2)) σ = some (r, σ1) ∧ fX10_alike (xs (6 * n + 1)) (xs (6 * n + 2)) σ1 = some (r, σ2) ∧ J σ2)
    (hk : LCont l b sz L n xs x4 kc ks σ J) : LRun l b sz x4 Ω kc ks 1220 σ := by
  obtain ⟨r, σ1, σ2, e1, e2, hJ⟩ := hI
  refine R_aload_n (i := 1) dL_law_1220 rfl rfl ?_
  refine R_aload_n (i := 0) dL_law_1221 rfl rfl ?_
  refine R_iload (i := 4) dL_law_1222 rfl ?_
  refine R_iconst (v := 1) dL_law_1224 rfl ?_
  refine R_iadd dL_law_1225 ?_
  refine R_sld hA.eb hA.eL hA.ex hA.i1a hA.i1b dL_law_1226 ?_
  refine R_aload_n (i := 0) dL_law_1227 rfl rfl ?_
  refine R_iload (i := 4) dL_law_1228 rfl ?_
  refine R_iconst (v := 2) dL_law_1230 rfl ?_
  refine R_iadd dL_law_1231 ?_
  refine R_sld hA.eb hA.eL hA.ex hA.i2a hA.i2b dL_law_1232 ?_
  refine R_callVi (ctX9_alike l Ω (xs (6 * n + 1)) (xs (6 * n + 2)) hA.l9 _ _ (hit_mono (KE_hit e1) (fun r s hrs => ?_))) okX9_alike mw_1011 hA.l9 (cE_9 Ω 0 _) rfl rfl (Nat.le_of_ble_eq_true rfl) rfl rfl ⟨Nat.le_of_ble_eq_true rfl, Nat.le_of_ble_eq_true rfl⟩ ⟨hA.cl, hA.sl⟩ dL_law_1233
  rw [hrs.1, hrs.2]
  have hA1 := hA.frame (frX9_alike (xs (6 * n + 1)) (xs (6 * n + 2)) σ _ _ e1) (by decide)
  refine R_aload_n (i := 2) dL_law_1236 rfl rfl ?_
  refine R_aload_n (i := 0) dL_law_1237 rfl rfl ?_
  refine R_iload (i := 4) dL_law_1238 rfl ?_
  refine R_iconst (v := 1) dL_law_1240 rfl ?_
  refine R_iadd dL_law_1241 ?_
  refine R_sld hA1.eb hA1.eL hA1.ex hA1.i1a hA1.i1b dL_law_1242 ?_
  refine R_aload_n (i := 0) dL_law_1243 rfl rfl ?_
  refine R_iload (i := 4) dL_law_1244 rfl ?_
  refine R_iconst (v := 2) dL_law_1246 rfl ?_
  refine R_iadd dL_law_1247 ?_
  refine R_sld hA1.eb hA1.eL hA1.ex hA1.i2a hA1.i2b dL_law_1248 ?_
  refine R_callVi (ctX10_alike l Ω (xs (6 * n + 1)) (xs (6 * n + 2)) hA1.l10 _ _ (hit_mono (KE_hit e2) (fun r2 s2 hrs2 => ?_))) okX10_alike mw_1691 hA1.l10 (cE_10 Ω 0 _) rfl rfl (Nat.le_of_ble_eq_true rfl) rfl rfl ⟨Nat.le_of_ble_eq_true rfl, Nat.le_of_ble_eq_true rfl⟩ ⟨hA.cl, hA.sl⟩ dL_law_1249
  rw [hrs2.1, hrs2.2]
  have f29 : σ2 29 = σ1 29 := frX10_alike (xs (6 * n + 1)) (xs (6 * n + 2)) σ1 _ _ e2 29 (by decide)
  have hA2 := hA1.frame (frX10_alike (xs (6 * n + 1)) (xs (6 * n + 2)) σ1 _ _ e2) (by decide)
  refine R_icmp_eq (tgt := 1494) dL_law_1252 (by decide) (fun _ => ?_) (fun hc => absurd rfl hc)
  have g29 : σ1 29 = σ 29 := frX9_alike (xs (6 * n + 1)) (xs (6 * n + 2)) σ _ _ e1 29 (by decide)
  exact hk Ω σ2 _ _ hA2 (by omega) (by omega) (by rw [f29, g29]; exact Nat.le_refl _) hJ
set_option maxRecDepth 100000 in
set_option maxHeartbeats 4000000 in
theorem lwc_30 {l : Launch} {Ω : rO} {b sz L n : Nat} {xs : Nat → Int32} {x4 : Int32} {σ : rS} {kc ks : Nat} {J : rS → Prop} (hA : LWa Ω b sz L n xs x4 kc ks σ) (hI : ∃ r σ1 σ2, fX9_until (xs (6 * n + 1)) σ = some (r, σ1) ∧ fX10_until (xs (6 * n + 1)) σ1 = some (r, σ2) ∧ J σ2)
    (hk : LCont l b sz L n xs x4 kc ks σ J) : LRun l b sz x4 Ω kc ks 1257 σ := by
  obtain ⟨r, σ1, σ2, e1, e2, hJ⟩ := hI
  refine R_aload_n (i := 1) dL_law_1257 rfl rfl ?_
  refine R_aload_n (i := 0) dL_law_1258 rfl rfl ?_
  refine R_iload (i := 4) dL_law_1259 rfl ?_
  refine R_iconst (v := 1) dL_law_1261 rfl ?_
  refine R_iadd dL_law_1262 ?_
  refine R_sld hA.eb hA.eL hA.ex hA.i1a hA.i1b dL_law_1263 ?_
  refine R_callVi (ctX9_until l Ω (xs (6 * n + 1)) hA.l9 _ _ (hit_mono (KE_hit e1) (fun r s hrs => ?_))) okX9_until mw_1028 hA.l9 (cE_9 Ω 0 _) rfl rfl (Nat.le_of_ble_eq_true rfl) rfl rfl ⟨Nat.le_of_ble_eq_true rfl, Nat.le_of_ble_eq_true rfl⟩ ⟨hA.cl, hA.sl⟩ dL_law_1264
  rw [hrs.1, hrs.2]
  have hA1 := hA.frame (frX9_until (xs (6 * n + 1)) σ _ _ e1) (by decide)
  refine R_aload_n (i := 2) dL_law_1267 rfl rfl ?_
  refine R_aload_n (i := 0) dL_law_1268 rfl rfl ?_
  refine R_iload (i := 4) dL_law_1269 rfl ?_
  refine R_iconst (v := 1) dL_law_1271 rfl ?_
  refine R_iadd dL_law_1272 ?_
  refine R_sld hA1.eb hA1.eL hA1.ex hA1.i1a hA1.i1b dL_law_1273 ?_
  refine R_callVi (ctX10_until l Ω (xs (6 * n + 1)) hA1.l10 _ _ (hit_mono (KE_hit e2) (fun r2 s2 hrs2 => ?_))) okX10_until mw_1699 hA1.l10 (cE_10 Ω 0 _) rfl rfl (Nat.le_of_ble_eq_true rfl) rfl rfl ⟨Nat.le_of_ble_eq_true rfl, Nat.le_of_ble_eq_true rfl⟩ ⟨hA.cl, hA.sl⟩ dL_law_1274
  rw [hrs2.1, hrs2.2]
  have f29 : σ2 29 = σ1 29 := frX10_until (xs (6 * n + 1)) σ1 _ _ e2 29 (by decide)
  have hA2 := hA1.frame (frX10_until (xs (6 * n + 1)) σ1 _ _ e2) (by decide)
  refine R_icmp_eq (tgt := 1494) dL_law_1277 (by decide) (fun _ => ?_) (fun hc => absurd rfl hc)
  have g29 : σ1 29 = σ 29 := frX9_until (xs (6 * n + 1)) σ _ _ e1 29 (by decide)
  exact hk Ω σ2 _ _ hA2 (by omega) (by omega) (by rw [f29, g29]; exact Nat.le_refl _) hJ
set_option maxRecDepth 100000 in
set_option maxHeartbeats 4000000 in
theorem lwc_31 {l : Launch} {Ω : rO} {b sz L n : Nat} {xs : Nat → Int32} {x4 : Int32} {σ : rS} {kc ks : Nat} {J : rS → Prop} (hA : LWa Ω b sz L n xs x4 kc ks σ) (hI : ∃ r σ1 σ2, fX9_garbage (xs (6 * n + 1)) σ = some (r, σ1) ∧ fX10_garbage (xs (6 * n + 1)) σ1 = some (r, σ2) ∧ J σ2)
    (hk : LCont l b sz L n xs x4 kc ks σ J) : LRun l b sz x4 Ω kc ks 1282 σ := by
  obtain ⟨r, σ1, σ2, e1, e2, hJ⟩ := hI
  refine R_aload_n (i := 1) dL_law_1282 rfl rfl ?_
  refine R_aload_n (i := 0) dL_law_1283 rfl rfl ?_
  refine R_iload (i := 4) dL_law_1284 rfl ?_
  refine R_iconst (v := 1) dL_law_1286 rfl ?_
  refine R_iadd dL_law_1287 ?_
  refine R_sld hA.eb hA.eL hA.ex hA.i1a hA.i1b dL_law_1288 ?_
  refine R_callVi (ctX9_garbage l Ω (xs (6 * n + 1)) hA.l9 _ _ (hit_mono (KE_hit e1) (fun r s hrs => ?_))) okX9_garbage mw_1033 hA.l9 (cE_9 Ω 0 _) rfl rfl (Nat.le_of_ble_eq_true rfl) rfl rfl ⟨Nat.le_of_ble_eq_true rfl, Nat.le_of_ble_eq_true rfl⟩ ⟨hA.cl, hA.sl⟩ dL_law_1289
  rw [hrs.1, hrs.2]
  have hA1 := hA.frame (frX9_garbage (xs (6 * n + 1)) σ _ _ e1) (by decide)
  refine R_aload_n (i := 2) dL_law_1292 rfl rfl ?_
  refine R_aload_n (i := 0) dL_law_1293 rfl rfl ?_
  refine R_iload (i := 4) dL_law_1294 rfl ?_
  refine R_iconst (v := 1) dL_law_1296 rfl ?_
  refine R_iadd dL_law_1297 ?_
  refine R_sld hA1.eb hA1.eL hA1.ex hA1.i1a hA1.i1b dL_law_1298 ?_
  refine R_callVi (ctX10_garbage l Ω (xs (6 * n + 1)) hA1.l10 _ _ (hit_mono (KE_hit e2) (fun r2 s2 hrs2 => ?_))) okX10_garbage mw_1703 hA1.l10 (cE_10 Ω 0 _) rfl rfl (Nat.le_of_ble_eq_true rfl) rfl rfl ⟨Nat.le_of_ble_eq_true rfl, Nat.le_of_ble_eq_true rfl⟩ ⟨hA.cl, hA.sl⟩ dL_law_1299
  rw [hrs2.1, hrs2.2]
  have f29 : σ2 29 = σ1 29 := frX10_garbage (xs (6 * n + 1)) σ1 _ _ e2 29 (by decide)
  have hA2 := hA1.frame (frX10_garbage (xs (6 * n + 1)) σ1 _ _ e2) (by decide)
  refine R_icmp_eq (tgt := 1494) dL_law_1302 (by decide) (fun _ => ?_) (fun hc => absurd rfl hc)
  have g29 : σ1 29 = σ 29 := frX9_garbage (xs (6 * n + 1)) σ _ _ e1 29 (by decide)
  exact hk Ω σ2 _ _ hA2 (by omega) (by omega) (by rw [f29, g29]; exact Nat.le_refl _) hJ
set_option maxRecDepth 100000 in
set_option maxHeartbeats 4000000 in
theorem lwc_32 {l : Launch} {Ω : rO} {b sz L n : Nat} {xs : Nat → Int32} {x4 : Int32} {σ : rS} {kc ks : Nat} {J : rS → Prop} (hA : LWa Ω b sz L n xs x4 kc ks σ) (hI : ∃ r σ1 σ2, fX9_step (xs (6 * n + 1)) (xs (6 * n + 2)) (xs (6 * n + 3)) σ = some (r, σ1) ∧ fX10_step (xs (6 * n + 1)) (xs (6 * n + 2)) (xs (6 * n + 3)) σ1 = some (r, σ2) ∧ J σ2)
    (hk : LCont l b sz L n xs x4 kc ks σ J) : LRun l b sz x4 Ω kc ks 1307 σ := by
  obtain ⟨r, σ1, σ2, e1, e2, hJ⟩ := hI
  refine R_aload_n (i := 1) dL_law_1307 rfl rfl ?_
  refine R_aload_n (i := 0) dL_law_1308 rfl rfl ?_
  refine R_iload (i := 4) dL_law_1309 rfl ?_
  refine R_iconst (v := 1) dL_law_1311 rfl ?_
  refine R_iadd dL_law_1312 ?_
  refine R_sld hA.eb hA.eL hA.ex hA.i1a hA.i1b dL_law_1313 ?_
  refine R_aload_n (i := 0) dL_law_1314 rfl rfl ?_
  refine R_iload (i := 4) dL_law_1315 rfl ?_
  refine R_iconst (v := 2) dL_law_1317 rfl ?_
  refine R_iadd dL_law_1318 ?_
  refine R_sld hA.eb hA.eL hA.ex hA.i2a hA.i2b dL_law_1319 ?_
  refine R_aload_n (i := 0) dL_law_1320 rfl rfl ?_
  refine R_iload (i := 4) dL_law_1321 rfl ?_
  refine R_iconst (v := 3) dL_law_1323 rfl ?_
  refine R_iadd dL_law_1324 ?_
  refine R_sld hA.eb hA.eL hA.ex hA.i3a hA.i3b dL_law_1325 ?_
  refine R_callVi (ctX9_step l Ω (xs (6 * n + 1)) (xs (6 * n + 2)) (xs (6 * n + 3)) hA.l9 _ _ (hit_mono (KE_hit e1) (fun r s hrs => ?_))) okX9_step mw_1041 hA.l9 (cE_9 Ω 0 _) rfl rfl (Nat.le_of_ble_eq_true rfl) rfl rfl ⟨Nat.le_of_ble_eq_true rfl, Nat.le_of_ble_eq_true rfl⟩ ⟨hA.cl, hA.sl⟩ dL_law_1326
  rw [hrs.1, hrs.2]
  have hA1 := hA.frame (frX9_step (xs (6 * n + 1)) (xs (6 * n + 2)) (xs (6 * n + 3)) σ _ _ e1) (by decide)
  refine R_aload_n (i := 2) dL_law_1329 rfl rfl ?_
  refine R_aload_n (i := 0) dL_law_1330 rfl rfl ?_
  refine R_iload (i := 4) dL_law_1331 rfl ?_
  refine R_iconst (v := 1) dL_law_1333 rfl ?_
  refine R_iadd dL_law_1334 ?_
  refine R_sld hA1.eb hA1.eL hA1.ex hA1.i1a hA1.i1b dL_law_1335 ?_
  refine R_aload_n (i := 0) dL_law_1336 rfl rfl ?_
  refine R_iload (i := 4) dL_law_1337 rfl ?_
  refine R_iconst (v := 2) dL_law_1339 rfl ?_
  refine R_iadd dL_law_1340 ?_
  refine R_sld hA1.eb hA1.eL hA1.ex hA1.i2a hA1.i2b dL_law_1341 ?_
  refine R_aload_n (i := 0) dL_law_1342 rfl rfl ?_
  refine R_iload (i := 4) dL_law_1343 rfl ?_
  refine R_iconst (v := 3) dL_law_1345 rfl ?_
  refine R_iadd dL_law_1346 ?_
  refine R_sld hA1.eb hA1.eL hA1.ex hA1.i3a hA1.i3b dL_law_1347 ?_
  refine R_callVi (ctX10_step l Ω (xs (6 * n + 1)) (xs (6 * n + 2)) (xs (6 * n + 3)) hA1.l10 _ _ (hit_mono (KE_hit e2) (fun r2 s2 hrs2 => ?_))) okX10_step mw_1707 hA1.l10 (cE_10 Ω 0 _) rfl rfl (Nat.le_of_ble_eq_true rfl) rfl rfl ⟨Nat.le_of_ble_eq_true rfl, Nat.le_of_ble_eq_true rfl⟩ ⟨hA.cl, hA.sl⟩ dL_law_1348
  rw [hrs2.1, hrs2.2]
  have f29 : σ2 29 = σ1 29 := frX10_step (xs (6 * n + 1)) (xs (6 * n + 2)) (xs (6 * n + 3)) σ1 _ _ e2 29 (by decide)
  have hA2 := hA1.frame (frX10_step (xs (6 * n + 1)) (xs (6 * n + 2)) (xs (6 * n + 3)) σ1 _ _ e2) (by decide)
  refine R_icmp_eq (tgt := 1494) dL_law_1351 (by decide) (fun _ => ?_) (fun hc => absurd rfl hc)
  have g29 : σ1 29 = σ 29 := frX9_step (xs (6 * n + 1)) (xs (6 * n + 2)) (xs (6 * n + 3)) σ _ _ e1 29 (by decide)
  exact hk Ω σ2 _ _ hA2 (by omega) (by omega) (by rw [f29, g29]; exact Nat.le_refl _) hJ
set_option maxRecDepth 100000 in
set_option maxHeartbeats 4000000 in
theorem lwc_33 {l : Launch} {Ω : rO} {b sz L n : Nat} {xs : Nat → Int32} {x4 : Int32} {σ : rS} {kc ks : Nat} {J : rS → Prop} (hA : LWa Ω b sz L n xs x4 kc ks σ) (hI : ∃ r σ1 σ2, fX9_run (xs (6 * n + 1)) (xs (6 * n + 2)) σ = some (r, σ1) ∧ fX10_run (xs (6 * n + 1)) (xs (6 * n + 2)) σ1 = some (r, σ2) ∧ J σ2)
    (hk : LCont l b sz L n xs x4 kc ks σ J) : LRun l b sz x4 Ω kc ks 1356 σ := by
  obtain ⟨r, σ1, σ2, e1, e2, hJ⟩ := hI
  refine R_aload_n (i := 1) dL_law_1356 rfl rfl ?_
  refine R_aload_n (i := 0) dL_law_1357 rfl rfl ?_
  refine R_iload (i := 4) dL_law_1358 rfl ?_
  refine R_iconst (v := 1) dL_law_1360 rfl ?_
  refine R_iadd dL_law_1361 ?_
  refine R_sld hA.eb hA.eL hA.ex hA.i1a hA.i1b dL_law_1362 ?_
  refine R_aload_n (i := 0) dL_law_1363 rfl rfl ?_
  refine R_iload (i := 4) dL_law_1364 rfl ?_
  refine R_iconst (v := 2) dL_law_1366 rfl ?_
  refine R_iadd dL_law_1367 ?_
  refine R_sld hA.eb hA.eL hA.ex hA.i2a hA.i2b dL_law_1368 ?_
  refine R_callVi (ctX9_run l Ω (xs (6 * n + 1)) (xs (6 * n + 2)) hA.l9 _ _ (hit_mono (KE_hit e1) (fun r s hrs => ?_))) okX9_run mw_1049 hA.l9 (cE_9 Ω 0 _) rfl rfl (Nat.le_of_ble_eq_true rfl) rfl rfl ⟨Nat.le_of_ble_eq_true rfl, Nat.le_of_ble_eq_true rfl⟩ ⟨hA.cl, hA.sl⟩ dL_law_1369
  rw [hrs.1, hrs.2]
  have hA1 := hA.frame (frX9_run (xs (6 * n + 1)) (xs (6 * n + 2)) σ _ _ e1) (by decide)
  refine R_aload_n (i := 2) dL_law_1372 rfl rfl ?_
  refine R_aload_n (i := 0) dL_law_1373 rfl rfl ?_
  refine R_iload (i := 4) dL_law_1374 rfl ?_
  refine R_iconst (v := 1) dL_law_1376 rfl ?_
  refine R_iadd dL_law_1377 ?_
  refine R_sld hA1.eb hA1.eL hA1.ex hA1.i1a hA1.i1b dL_law_1378 ?_
  refine R_aload_n (i := 0) dL_law_1379 rfl rfl ?_
  refine R_iload (i := 4) dL_law_1380 rfl ?_
  refine R_iconst (v := 2) dL_law_1382 rfl ?_
  refine R_iadd dL_law_1383 ?_
  refine R_sld hA1.eb hA1.eL hA1.ex hA1.i2a hA1.i2b dL_law_1384 ?_
  refine R_callVi (ctX10_run l Ω (xs (6 * n + 1)) (xs (6 * n + 2)) hA1.l10 _ _ (hit_mono (KE_hit e2) (fun r2 s2 hrs2 => ?_))) okX10_run mw_1715 hA1.l10 (cE_10 Ω 0 _) rfl rfl (Nat.le_of_ble_eq_true rfl) rfl rfl ⟨Nat.le_of_ble_eq_true rfl, Nat.le_of_ble_eq_true rfl⟩ ⟨hA.cl, hA.sl⟩ dL_law_1385
  rw [hrs2.1, hrs2.2]
  have f29 : σ2 29 = σ1 29 := frX10_run (xs (6 * n + 1)) (xs (6 * n + 2)) σ1 _ _ e2 29 (by decide)
  have hA2 := hA1.frame (frX10_run (xs (6 * n + 1)) (xs (6 * n + 2)) σ1 _ _ e2) (by decide)
  refine R_icmp_eq (tgt := 1494) dL_law_1388 (by decide) (fun _ => ?_) (fun hc => absurd rfl hc)
  have g29 : σ1 29 = σ 29 := frX9_run (xs (6 * n + 1)) (xs (6 * n + 2)) σ _ _ e1 29 (by decide)
  exact hk Ω σ2 _ _ hA2 (by omega) (by omega) (by rw [f29, g29]; exact Nat.le_refl _) hJ
set_option maxRecDepth 100000 in
set_option maxHeartbeats 4000000 in
theorem lwc_34 {l : Launch} {Ω : rO} {b sz L n : Nat} {xs : Nat → Int32} {x4 : Int32} {σ : rS} {kc ks : Nat} {J : rS → Prop} (hA : LWa Ω b sz L n xs x4 kc ks σ) (hI : ∃ r σ1 σ2, fX9_perform (xs (6 * n + 1)) σ = some (r, σ1) ∧ fX10_perform (xs (6 * n + 1)) σ1 = some (r, σ2) ∧ J σ2)
    (hk : LCont l b sz L n xs x4 kc ks σ J) : LRun l b sz x4 Ω kc ks 1393 σ := by
  obtain ⟨r, σ1, σ2, e1, e2, hJ⟩ := hI
  refine R_aload_n (i := 1) dL_law_1393 rfl rfl ?_
  refine R_aload_n (i := 0) dL_law_1394 rfl rfl ?_
  refine R_iload (i := 4) dL_law_1395 rfl ?_
  refine R_iconst (v := 1) dL_law_1397 rfl ?_
  refine R_iadd dL_law_1398 ?_
  refine R_sld hA.eb hA.eL hA.ex hA.i1a hA.i1b dL_law_1399 ?_
  have hmn := mn_perform _ _ _ _ e1
  have hcl := cntF_le (σ1 29 0)
  refine A_callV (ctA_perform l Ω (xs (6 * n + 1)) hA.l9 σ _ _ hA.wo e1) okX9_perform mw_1057 hA.l9 (cE_9 Ω 0 _) rfl rfl (Nat.le_of_ble_eq_true rfl) rfl rfl ⟨Nat.le_of_ble_eq_true rfl, Nat.le_of_ble_eq_true rfl⟩ ⟨by have := hA.kc3; show _ ≤ 601024; omega, by have := hA.ks3; show _ ≤ 7293034; omega⟩ dL_law_1400 (fun Ω2 hE hO2 => ?_)
  have hA1 := hA.ext hE hO2
  refine R_eq (lv2 := [some (.ref b), some (rf Ω2 9 0), some (rf Ω2 10 0), some (rf Ω2 77 0), some (.int x4), none, none]) (st2 := [.int r]) (by simp only [rf, hE.a hA.l9, hE.a hA.l10, hE.a hA.l77]) rfl ?_
  refine R_aload_n (i := 2) dL_law_1403 rfl rfl ?_
  refine R_aload_n (i := 0) dL_law_1404 rfl rfl ?_
  refine R_iload (i := 4) dL_law_1405 rfl ?_
  refine R_iconst (v := 1) dL_law_1407 rfl ?_
  refine R_iadd dL_law_1408 ?_
  refine R_sld hA1.eb hA1.eL hA1.ex hA1.i1a hA1.i1b dL_law_1409 ?_
  refine R_callVi (ctX10_perform l Ω2 (xs (6 * n + 1)) hA1.l10 _ _ (hit_mono (KE_hit e2) (fun r2 s2 hrs2 => ?_))) okX10_perform mw_1719 hA1.l10 (cE_10 Ω2 0 _) rfl rfl (Nat.le_of_ble_eq_true rfl) rfl rfl ⟨Nat.le_of_ble_eq_true rfl, Nat.le_of_ble_eq_true rfl⟩ ⟨by have := hA.kc3; show _ ≤ 601024; omega, by have := hA.ks3; show _ ≤ 7293034; omega⟩ dL_law_1410
  rw [hrs2.1, hrs2.2]
  have f29 : σ2 29 = σ1 29 := frX10_perform (xs (6 * n + 1)) σ1 _ _ e2 29 (by decide)
  have hA2 := hA1.frame (frX10_perform (xs (6 * n + 1)) σ1 _ _ e2) (by decide)
  refine R_icmp_eq (tgt := 1494) dL_law_1413 (by decide) (fun _ => ?_) (fun hc => absurd rfl hc)
  exact hk Ω2 σ2 _ _ hA2 (by rw [f29]; omega) (by rw [f29]; omega) (by rw [f29]; exact hmn) hJ
set_option maxRecDepth 100000 in
set_option maxHeartbeats 4000000 in
theorem lwc_35 {l : Launch} {Ω : rO} {b sz L n : Nat} {xs : Nat → Int32} {x4 : Int32} {σ : rS} {kc ks : Nat} {J : rS → Prop} (hA : LWa Ω b sz L n xs x4 kc ks σ) (hI : ∃ r σ1 σ2, fX9_most (xs (6 * n + 1)) σ = some (r, σ1) ∧ fX10_most (xs (6 * n + 1)) σ1 = some (r, σ2) ∧ J σ2)
    (hk : LCont l b sz L n xs x4 kc ks σ J) : LRun l b sz x4 Ω kc ks 1418 σ := by
  obtain ⟨r, σ1, σ2, e1, e2, hJ⟩ := hI
  refine R_aload_n (i := 1) dL_law_1418 rfl rfl ?_
  refine R_aload_n (i := 0) dL_law_1419 rfl rfl ?_
  refine R_iload (i := 4) dL_law_1420 rfl ?_
  refine R_iconst (v := 1) dL_law_1422 rfl ?_
  refine R_iadd dL_law_1423 ?_
  refine R_sld hA.eb hA.eL hA.ex hA.i1a hA.i1b dL_law_1424 ?_
  refine R_callVi (ctX9_most l Ω (xs (6 * n + 1)) hA.l9 _ _ (hit_mono (KE_hit e1) (fun r s hrs => ?_))) okX9_most mw_1061 hA.l9 (cE_9 Ω 0 _) rfl rfl (Nat.le_of_ble_eq_true rfl) rfl rfl ⟨Nat.le_of_ble_eq_true rfl, Nat.le_of_ble_eq_true rfl⟩ ⟨hA.cl, hA.sl⟩ dL_law_1425
  rw [hrs.1, hrs.2]
  have hA1 := hA.frame (frX9_most (xs (6 * n + 1)) σ _ _ e1) (by decide)
  refine R_aload_n (i := 2) dL_law_1428 rfl rfl ?_
  refine R_aload_n (i := 0) dL_law_1429 rfl rfl ?_
  refine R_iload (i := 4) dL_law_1430 rfl ?_
  refine R_iconst (v := 1) dL_law_1432 rfl ?_
  refine R_iadd dL_law_1433 ?_
  refine R_sld hA1.eb hA1.eL hA1.ex hA1.i1a hA1.i1b dL_law_1434 ?_
  refine R_callVi (ctX10_most l Ω (xs (6 * n + 1)) hA1.l10 _ _ (hit_mono (KE_hit e2) (fun r2 s2 hrs2 => ?_))) okX10_most mw_1723 hA1.l10 (cE_10 Ω 0 _) rfl rfl (Nat.le_of_ble_eq_true rfl) rfl rfl ⟨Nat.le_of_ble_eq_true rfl, Nat.le_of_ble_eq_true rfl⟩ ⟨hA.cl, hA.sl⟩ dL_law_1435
  rw [hrs2.1, hrs2.2]
  have f29 : σ2 29 = σ1 29 := frX10_most (xs (6 * n + 1)) σ1 _ _ e2 29 (by decide)
  have hA2 := hA1.frame (frX10_most (xs (6 * n + 1)) σ1 _ _ e2) (by decide)
  refine R_icmp_eq (tgt := 1494) dL_law_1438 (by decide) (fun _ => ?_) (fun hc => absurd rfl hc)
  have g29 : σ1 29 = σ 29 := frX9_most (xs (6 * n + 1)) σ _ _ e1 29 (by decide)
  exact hk Ω σ2 _ _ hA2 (by omega) (by omega) (by rw [f29, g29]; exact Nat.le_refl _) hJ
set_option maxRecDepth 100000 in
set_option maxHeartbeats 4000000 in
theorem lwc_36 {l : Launch} {Ω : rO} {b sz L n : Nat} {xs : Nat → Int32} {x4 : Int32} {σ : rS} {kc ks : Nat} {J : rS → Prop} (hA : LWa Ω b sz L n xs x4 kc ks σ) (hI : ∃ r σ1 σ2, fX9_image  σ = some (r, σ1) ∧ fX10_image  σ1 = some (r, σ2) ∧ J σ2)
    (hk : LCont l b sz L n xs x4 kc ks σ J) : LRun l b sz x4 Ω kc ks 1443 σ := by
  obtain ⟨r, σ1, σ2, e1, e2, hJ⟩ := hI
  refine R_aload_n (i := 1) dL_law_1443 rfl rfl ?_
  refine R_callVi (ctX9_image l Ω  hA.l9 _ _ (hit_mono (KE_hit e1) (fun r s hrs => ?_))) okX9_image mw_1078 hA.l9 (cE_9 Ω 0 _) rfl rfl (Nat.le_of_ble_eq_true rfl) rfl rfl ⟨Nat.le_of_ble_eq_true rfl, Nat.le_of_ble_eq_true rfl⟩ ⟨hA.cl, hA.sl⟩ dL_law_1444
  rw [hrs.1, hrs.2]
  have hA1 := hA.frame (frX9_image  σ _ _ e1) (by decide)
  refine R_aload_n (i := 2) dL_law_1447 rfl rfl ?_
  refine R_callVi (ctX10_image l Ω  hA1.l10 _ _ (hit_mono (KE_hit e2) (fun r2 s2 hrs2 => ?_))) okX10_image mw_1614 hA1.l10 (cE_10 Ω 0 _) rfl rfl (Nat.le_of_ble_eq_true rfl) rfl rfl ⟨Nat.le_of_ble_eq_true rfl, Nat.le_of_ble_eq_true rfl⟩ ⟨hA.cl, hA.sl⟩ dL_law_1448
  rw [hrs2.1, hrs2.2]
  have f29 : σ2 29 = σ1 29 := frX10_image  σ1 _ _ e2 29 (by decide)
  have hA2 := hA1.frame (frX10_image  σ1 _ _ e2) (by decide)
  refine R_icmp_eq (tgt := 1494) dL_law_1451 (by decide) (fun _ => ?_) (fun hc => absurd rfl hc)
  have g29 : σ1 29 = σ 29 := frX9_image  σ _ _ e1 29 (by decide)
  exact hk Ω σ2 _ _ hA2 (by omega) (by omega) (by rw [f29, g29]; exact Nat.le_refl _) hJ
set_option maxRecDepth 100000 in
set_option maxHeartbeats 4000000 in
theorem lwc_37 {l : Launch} {Ω : rO} {b sz L n : Nat} {xs : Nat → Int32} {x4 : Int32} {σ : rS} {kc ks : Nat} {J : rS → Prop} (hA : LWa Ω b sz L n xs x4 kc ks σ) (hI : ∃ r σ1 σ2, fX9_back  σ = some (r, σ1) ∧ fX10_back  σ1 = some (r, σ2) ∧ J σ2)
    (hk : LCont l b sz L n xs x4 kc ks σ J) : LRun l b sz x4 Ω kc ks 1456 σ := by
  obtain ⟨r, σ1, σ2, e1, e2, hJ⟩ := hI
  refine R_aload_n (i := 1) dL_law_1456 rfl rfl ?_
  refine R_callVi (ctX9_back l Ω  hA.l9 _ _ (hit_mono (KE_hit e1) (fun r s hrs => ?_))) okX9_back mw_1082 hA.l9 (cE_9 Ω 0 _) rfl rfl (Nat.le_of_ble_eq_true rfl) rfl rfl ⟨Nat.le_of_ble_eq_true rfl, Nat.le_of_ble_eq_true rfl⟩ ⟨hA.cl, hA.sl⟩ dL_law_1457
  rw [hrs.1, hrs.2]
  have hA1 := hA.frame (frX9_back  σ _ _ e1) (by decide)
  refine R_aload_n (i := 2) dL_law_1460 rfl rfl ?_
  refine R_callVi (ctX10_back l Ω  hA1.l10 _ _ (hit_mono (KE_hit e2) (fun r2 s2 hrs2 => ?_))) okX10_back mw_1618 hA1.l10 (cE_10 Ω 0 _) rfl rfl (Nat.le_of_ble_eq_true rfl) rfl rfl ⟨Nat.le_of_ble_eq_true rfl, Nat.le_of_ble_eq_true rfl⟩ ⟨hA.cl, hA.sl⟩ dL_law_1461
  rw [hrs2.1, hrs2.2]
  have f29 : σ2 29 = σ1 29 := frX10_back  σ1 _ _ e2 29 (by decide)
  have hA2 := hA1.frame (frX10_back  σ1 _ _ e2) (by decide)
  refine R_icmp_eq (tgt := 1494) dL_law_1464 (by decide) (fun _ => ?_) (fun hc => absurd rfl hc)
  have g29 : σ1 29 = σ 29 := frX9_back  σ _ _ e1 29 (by decide)
  exact hk Ω σ2 _ _ hA2 (by omega) (by omega) (by rw [f29, g29]; exact Nat.le_refl _) hJ
set_option maxRecDepth 100000 in
set_option maxHeartbeats 4000000 in
theorem lwc_38 {l : Launch} {Ω : rO} {b sz L n : Nat} {xs : Nat → Int32} {x4 : Int32} {σ : rS} {kc ks : Nat} {J : rS → Prop} (hA : LWa Ω b sz L n xs x4 kc ks σ) (hI : ∃ r σ1 σ2, fX9_count (xs (6 * n + 1)) σ = some (r, σ1) ∧ fX10_count (xs (6 * n + 1)) σ1 = some (r, σ2) ∧ J σ2)
    (hk : LCont l b sz L n xs x4 kc ks σ J) : LRun l b sz x4 Ω kc ks 1469 σ := by
  obtain ⟨r, σ1, σ2, e1, e2, hJ⟩ := hI
  refine R_aload_n (i := 1) dL_law_1469 rfl rfl ?_
  refine R_aload_n (i := 0) dL_law_1470 rfl rfl ?_
  refine R_iload (i := 4) dL_law_1471 rfl ?_
  refine R_iconst (v := 1) dL_law_1473 rfl ?_
  refine R_iadd dL_law_1474 ?_
  refine R_sld hA.eb hA.eL hA.ex hA.i1a hA.i1b dL_law_1475 ?_
  refine R_callVi (ctX9_count l Ω (xs (6 * n + 1)) hA.l9 _ _ (hit_mono (KE_hit e1) (fun r s hrs => ?_))) okX9_count mw_1086 hA.l9 (cE_9 Ω 0 _) rfl rfl (Nat.le_of_ble_eq_true rfl) rfl rfl ⟨Nat.le_of_ble_eq_true rfl, Nat.le_of_ble_eq_true rfl⟩ ⟨hA.cl, hA.sl⟩ dL_law_1476
  rw [hrs.1, hrs.2]
  have hA1 := hA.frame (frX9_count (xs (6 * n + 1)) σ _ _ e1) (by decide)
  refine R_aload_n (i := 2) dL_law_1479 rfl rfl ?_
  refine R_aload_n (i := 0) dL_law_1480 rfl rfl ?_
  refine R_iload (i := 4) dL_law_1481 rfl ?_
  refine R_iconst (v := 1) dL_law_1483 rfl ?_
  refine R_iadd dL_law_1484 ?_
  refine R_sld hA1.eb hA1.eL hA1.ex hA1.i1a hA1.i1b dL_law_1485 ?_
  refine R_callVi (ctX10_count l Ω (xs (6 * n + 1)) hA1.l10 _ _ (hit_mono (KE_hit e2) (fun r2 s2 hrs2 => ?_))) okX10_count mw_1741 hA1.l10 (cE_10 Ω 0 _) rfl rfl (Nat.le_of_ble_eq_true rfl) rfl rfl ⟨Nat.le_of_ble_eq_true rfl, Nat.le_of_ble_eq_true rfl⟩ ⟨hA.cl, hA.sl⟩ dL_law_1486
  rw [hrs2.1, hrs2.2]
  have f29 : σ2 29 = σ1 29 := frX10_count (xs (6 * n + 1)) σ1 _ _ e2 29 (by decide)
  have hA2 := hA1.frame (frX10_count (xs (6 * n + 1)) σ1 _ _ e2) (by decide)
  refine R_icmp_eq (tgt := 1494) dL_law_1489 (by decide) (fun _ => ?_) (fun hc => absurd rfl hc)
  have g29 : σ1 29 = σ 29 := frX9_count (xs (6 * n + 1)) σ _ _ e1 29 (by decide)
  exact hk Ω σ2 _ _ hA2 (by omega) (by omega) (by rw [f29, g29]; exact Nat.le_refl _) hJ
