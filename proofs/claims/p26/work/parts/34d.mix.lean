/-! The law's own methods that call the class, as predicates: what must hold for the method to come to its end with K. -/
abbrev ML_isBegun : xM := (RL, cL_isBegun, 20, (some .boolean), "isBegun")
abbrev rmL_isBegun : Room := { frames := 41, cells := 125, slots := 750, locals := 2413 }
theorem ciL_isBegun : Cond.code yL_isBegun cL_isBegun 20 (some .boolean) ∈ wt ∧ Cond.initialized yL_isBegun.cls ∈ wt ∧ (yL_isBegun.cls ≠ "java/lang/invoke/MethodHandle" ∧ yL_isBegun.cls ≠ "java/lang/invoke/VarHandle" ∧ (parseMethodDescriptor yL_isBegun.desc).map (fun d => d.parameters.length) = some 14) := ⟨wl4 (i := 77) rfl rfl, wl1 (i := 0) rfl rfl, by decide +kernel, by decide +kernel, by decide +kernel⟩
def gL_isBegun_401 (lo t Ls : Nat) (xs : Nat → Int32) (K : Int32 → TH → MS → Prop) (h : TH) (L : MS) (a9 : Int32) (a10 : Int32) (a11 : Int32) (a12 : Int32) (a13 : Int32) (a17 : Int32) : Prop :=
  gL_does lo t Ls xs (fun v2 h3 L4 => (if v2 = a17 then K (1 : Int32) h3 L4 else K (0 : Int32) h3 L4)) h L (1 : Int32) a9 a10 a11 a12 a13
set_option maxHeartbeats 4000000 in
set_option maxRecDepth 100000 in
theorem wkL_isBegun_401 {l : Launch} {g : xG} {x0 : xV} {b lo t Ls : Nat} {xs : Nat → Int32} {K : Int32 → TH → MS → Prop} {kc ks : Nat} (hl : l.stackTraces = false) (hb : b + 8 < lo) (hb0 : b < x0.1 ∧ x0.2 b = none) (h : TH) (L : MS) (a9 : Int32) (a10 : Int32) (a11 : Int32) (a12 : Int32) (a13 : Int32) (a17 : Int32) (hD : LDp lo h) (hc : kc + (125) ≤ 125 ∧ ks + (750) ≤ 750) (hf : gL_isBegun_401 lo t Ls xs K h L a9 a10 a11 a12 a13 a17) : AWG (XS b Ls xs) (zR rmL_isBegun g lo x0 K) ML_isBegun rmL_isBegun l g x0 kc ks (LW g lo h L) 401 [(0, va_rf (some t)), (9, .int a9), (10, .int a10), (11, .int a11), (12, .int a12), (13, .int a13), (17, .int a17)] [] := by
  rw [gL_isBegun_401] at hf
  refine ag_qload_n 0 dL_isBegun_401 rfl ?_
  refine ag_iconst (1 : Int32) dL_isBegun_402 (by decide) ?_
  refine ag_iload 1 dL_isBegun_403 rfl ?_
  refine ag_iload 2 dL_isBegun_405 rfl ?_
  refine ag_iload 3 dL_isBegun_407 rfl ?_
  refine ag_iload 4 dL_isBegun_409 rfl ?_
  refine ag_iload 5 dL_isBegun_411 rfl ?_
  refine ag_callRH (fun s a c h => h.1) [va_rf (some t), .int (1 : Int32), .int a9, .int a10, .int a11, .int a12, .int a13] 7 (ctL_does hl _ _ _ _ _ _ _ _ hD hf) ⟨wl1 (i := 129) rfl rfl, ciL_does⟩ (wl1 (i := 130) rfl rfl) dL_isBegun_413 rfl rfl (Nat.le_of_ble_eq_true rfl) ⟨Nat.le_of_ble_eq_true rfl, Nat.le_of_ble_eq_true rfl⟩ ⟨show kc + 125 ≤ 125 by omega, show ks + 750 ≤ 750 by omega⟩ (fun v2 h3 L4 hf hD5 => ?_)
  refine ag_iload 6 dL_isBegun_416 rfl ?_
  refine ag_icmp_ne 425 dL_isBegun_418 (by decide) (fun c6 => ?_) (fun c6 => ?_)
  · rw [if_neg c6] at hf
    refine ag_iconst (0 : Int32) dL_isBegun_425 (by decide) ?_
    exact agr_zret hD5 hf rfl dL_isBegun_426 rfl ⟨show kc + 125 + 0 ≤ 125 by omega, show ks + 750 + 0 ≤ 750 by omega⟩
  · rw [if_pos c6] at hf
    refine ag_iconst (1 : Int32) dL_isBegun_421 (by decide) ?_
    refine ag_goto 426 dL_isBegun_422 (by decide) ?_
    exact agr_zret hD5 hf rfl dL_isBegun_426 rfl ⟨show kc + 125 + 0 ≤ 125 by omega, show ks + 750 + 0 ≤ 750 by omega⟩
def gL_isBegun_329 (lo t Ls : Nat) (xs : Nat → Int32) (K : Int32 → TH → MS → Prop) (h : TH) (L : MS) (a9 : Int32) (a10 : Int32) (a11 : Int32) (a12 : Int32) (a13 : Int32) (a17 : Int32) (s1 : Int32) (s2 : Int64) : Prop :=
  (xin s1 64 = true ∧ (xin (m_I (ms_J L 0 s1.toNatClampNeg s2) 7 (2 : Int32).toNatClampNeg) 64 = true ∧ (∃ W3, (ms_J (ms_J L 0 s1.toNatClampNeg s2) 1 (m_I (ms_J L 0 s1.toNatClampNeg s2) 7 (2 : Int32).toNatClampNeg).toNatClampNeg (0 : Int64)) = W3 ∧ (xin (m_I W3 7 (2 : Int32).toNatClampNeg) 64 = true ∧ (∃ W5, (ms_I W3 2 (m_I W3 7 (2 : Int32).toNatClampNeg).toNatClampNeg a17) = W5 ∧ (∃ W6, (ms_I W5 7 (2 : Int32).toNatClampNeg ((m_I W5 7 (2 : Int32).toNatClampNeg) + (1 : Int32))) = W6 ∧ (xin a17 64 = true ∧ (xin ((16 : Int32) + a17) 64 = true ∧ (∃ W9, (ms_I (ms_I W6 5 a17.toNatClampNeg a11) 5 ((16 : Int32) + a17).toNatClampNeg a11) = W9 ∧ (xin ((32 : Int32) + a17) 64 = true ∧ (∃ W11, (ms_I W9 5 ((32 : Int32) + a17).toNatClampNeg ((11 : Int32) * a12)) = W11 ∧ (xin ((48 : Int32) + a17) 64 = true ∧ (∃ W13, (ms_I (ms_I W11 5 ((48 : Int32) + a17).toNatClampNeg a13) 7 (1 : Int32).toNatClampNeg ((m_I (ms_I W11 5 ((48 : Int32) + a17).toNatClampNeg a13) 7 (1 : Int32).toNatClampNeg) + (1 : Int32))) = W13 ∧ gL_isBegun_401 lo t Ls xs K h W13 a9 a10 a11 a12 a13 a17)))))))))))))
set_option maxHeartbeats 4000000 in
set_option maxRecDepth 100000 in
theorem wkL_isBegun_329 {l : Launch} {g : xG} {x0 : xV} {b lo t Ls : Nat} {xs : Nat → Int32} {K : Int32 → TH → MS → Prop} {kc ks : Nat} (hl : l.stackTraces = false) (hb : b + 8 < lo) (hb0 : b < x0.1 ∧ x0.2 b = none) (h : TH) (L : MS) (a9 : Int32) (a10 : Int32) (a11 : Int32) (a12 : Int32) (a13 : Int32) (a17 : Int32) (s1 : Int32) (s2 : Int64) (hD : LDp lo h) (hc : kc + (125) ≤ 125 ∧ ks + (750) ≤ 750) (hf : gL_isBegun_329 lo t Ls xs K h L a9 a10 a11 a12 a13 a17 s1 s2) : AWG (XS b Ls xs) (zR rmL_isBegun g lo x0 K) ML_isBegun rmL_isBegun l g x0 kc ks (LW g lo h L) 329 [(0, va_rf (some t)), (2, .ref (lo + 1)), (3, .ref (lo + 2)), (6, .ref (lo + 5)), (8, .ref (lo + 7)), (9, .int a9), (10, .int a10), (11, .int a11), (12, .int a12), (13, .int a13), (17, .int a17)] [.long s2, .int s1, .ref (lo + 0)] := by
  rw [gL_isBegun_329] at hf
  obtain ⟨hi1, hf⟩ := hf
  refine ar_last 0 64 hD rfl (by decide) (xin_v hi1) dL_isBegun_329 ?_
  refine ag_aload_n 1 dL_isBegun_330 rfl ?_
  refine ag_aload 4 dL_isBegun_331 rfl ?_
  refine ag_iconst (2 : Int32) dL_isBegun_333 (by decide) ?_
  refine ar_iald 7 5 hD rfl (by decide) (xin_v (by decide)) dL_isBegun_334 ?_
  refine ag_lconst (0 : Int64) dL_isBegun_335 (by decide) ?_
  obtain ⟨hi2, hf⟩ := hf
  obtain ⟨W3, hW3, hf⟩ := hf
  refine ar_last 1 64 hD rfl (by decide) (xin_v hi2) dL_isBegun_336 ?_
  rw [hW3]
  refine ag_aload_n 2 dL_isBegun_337 rfl ?_
  refine ag_aload 4 dL_isBegun_338 rfl ?_
  refine ag_iconst (2 : Int32) dL_isBegun_340 (by decide) ?_
  refine ar_iald 7 5 hD rfl (by decide) (xin_v (by decide)) dL_isBegun_341 ?_
  refine ag_iload 10 dL_isBegun_342 rfl ?_
  obtain ⟨hi4, hf⟩ := hf
  obtain ⟨W5, hW5, hf⟩ := hf
  refine ar_iast 2 64 hD rfl (by decide) (xin_v hi4) dL_isBegun_344 ?_
  rw [hW5]
  refine ag_aload 4 dL_isBegun_345 rfl ?_
  refine ag_iconst (2 : Int32) dL_isBegun_347 (by decide) ?_
  refine ag_dup2 dL_isBegun_348 rfl rfl ?_
  refine ar_iald 7 5 hD rfl (by decide) (xin_v (by decide)) dL_isBegun_349 ?_
  refine ag_iconst (1 : Int32) dL_isBegun_350 (by decide) ?_
  refine ag_iadd dL_isBegun_351 ?_
  obtain ⟨W6, hW6, hf⟩ := hf
  refine ar_iast 7 5 hD rfl (by decide) (xin_v (by decide)) dL_isBegun_352 ?_
  rw [hW6]
  refine ag_aload 3 dL_isBegun_353 rfl ?_
  refine ag_iload 10 dL_isBegun_355 rfl ?_
  refine ag_iload 7 dL_isBegun_357 rfl ?_
  obtain ⟨hi7, hf⟩ := hf
  refine ar_iast 5 64 hD rfl (by decide) (xin_v hi7) dL_isBegun_359 ?_
  refine ag_aload 3 dL_isBegun_360 rfl ?_
  refine ag_bipush (16 : Int32) dL_isBegun_362 (by decide) ?_
  refine ag_iload 10 dL_isBegun_364 rfl ?_
  refine ag_iadd dL_isBegun_366 ?_
  refine ag_iload 7 dL_isBegun_367 rfl ?_
  obtain ⟨hi8, hf⟩ := hf
  obtain ⟨W9, hW9, hf⟩ := hf
  refine ar_iast 5 64 hD rfl (by decide) (xin_v hi8) dL_isBegun_369 ?_
  rw [hW9]
  refine ag_aload 3 dL_isBegun_370 rfl ?_
  refine ag_bipush (32 : Int32) dL_isBegun_372 (by decide) ?_
  refine ag_iload 10 dL_isBegun_374 rfl ?_
  refine ag_iadd dL_isBegun_376 ?_
  refine ag_bipush (11 : Int32) dL_isBegun_377 (by decide) ?_
  refine ag_iload 8 dL_isBegun_379 rfl ?_
  refine ag_imul dL_isBegun_381 ?_
  obtain ⟨hi10, hf⟩ := hf
  obtain ⟨W11, hW11, hf⟩ := hf
  refine ar_iast 5 64 hD rfl (by decide) (xin_v hi10) dL_isBegun_382 ?_
  rw [hW11]
  refine ag_aload 3 dL_isBegun_383 rfl ?_
  refine ag_bipush (48 : Int32) dL_isBegun_385 (by decide) ?_
  refine ag_iload 10 dL_isBegun_387 rfl ?_
  refine ag_iadd dL_isBegun_389 ?_
  refine ag_iload 9 dL_isBegun_390 rfl ?_
  obtain ⟨hi12, hf⟩ := hf
  refine ar_iast 5 64 hD rfl (by decide) (xin_v hi12) dL_isBegun_392 ?_
  refine ag_aload 4 dL_isBegun_393 rfl ?_
  refine ag_iconst (1 : Int32) dL_isBegun_395 (by decide) ?_
  refine ag_dup2 dL_isBegun_396 rfl rfl ?_
  refine ar_iald 7 5 hD rfl (by decide) (xin_v (by decide)) dL_isBegun_397 ?_
  refine ag_iconst (1 : Int32) dL_isBegun_398 (by decide) ?_
  refine ag_iadd dL_isBegun_399 ?_
  obtain ⟨W13, hW13, hf⟩ := hf
  refine ar_iast 7 5 hD rfl (by decide) (xin_v (by decide)) dL_isBegun_400 ?_
  rw [hW13]
  refine ag_lv [0, 5, 6, 7, 8, 9, 10] rfl ?_
  exact wkL_isBegun_401 hl hb hb0 _ _ _ _ _ _ _ _ hD ⟨show kc + (125) ≤ 125 by omega, show ks + (750) ≤ 750 by omega⟩ hf
def gL_isBegun_328 (lo t Ls : Nat) (xs : Nat → Int32) (K : Int32 → TH → MS → Prop) (h : TH) (L : MS) (a9 : Int32) (a10 : Int32) (a11 : Int32) (a12 : Int32) (a13 : Int32) (a17 : Int32) (s1 : Int32) (s2 : Int64) (s3 : Int64) : Prop :=
  gL_isBegun_329 lo t Ls xs K h L a9 a10 a11 a12 a13 a17 s1 (s2 ||| s3)
set_option maxHeartbeats 4000000 in
set_option maxRecDepth 100000 in
theorem wkL_isBegun_328 {l : Launch} {g : xG} {x0 : xV} {b lo t Ls : Nat} {xs : Nat → Int32} {K : Int32 → TH → MS → Prop} {kc ks : Nat} (hl : l.stackTraces = false) (hb : b + 8 < lo) (hb0 : b < x0.1 ∧ x0.2 b = none) (h : TH) (L : MS) (a9 : Int32) (a10 : Int32) (a11 : Int32) (a12 : Int32) (a13 : Int32) (a17 : Int32) (s1 : Int32) (s2 : Int64) (s3 : Int64) (hD : LDp lo h) (hc : kc + (125) ≤ 125 ∧ ks + (750) ≤ 750) (hf : gL_isBegun_328 lo t Ls xs K h L a9 a10 a11 a12 a13 a17 s1 s2 s3) : AWG (XS b Ls xs) (zR rmL_isBegun g lo x0 K) ML_isBegun rmL_isBegun l g x0 kc ks (LW g lo h L) 328 [(0, va_rf (some t)), (2, .ref (lo + 1)), (3, .ref (lo + 2)), (6, .ref (lo + 5)), (8, .ref (lo + 7)), (9, .int a9), (10, .int a10), (11, .int a11), (12, .int a12), (13, .int a13), (17, .int a17)] [.long s3, .long s2, .int s1, .ref (lo + 0)] := by
  rw [gL_isBegun_328] at hf
  refine ag_lor dL_isBegun_328 ?_
  refine ag_lv [0, 1, 2, 3, 4, 5, 6, 7, 8, 9, 10] rfl ?_
  exact wkL_isBegun_329 hl hb hb0 _ _ _ _ _ _ _ _ _ _ hD ⟨show kc + (125) ≤ 125 by omega, show ks + (750) ≤ 750 by omega⟩ hf
def gL_isBegun_314 (lo t Ls : Nat) (xs : Nat → Int32) (K : Int32 → TH → MS → Prop) (h : TH) (L : MS) (a9 : Int32) (a10 : Int32) (a11 : Int32) (a12 : Int32) (a13 : Int32) (a17 : Int32) (a18 : Int32) (s1 : Int32) (s2 : Int64) (s3 : Int64) : Prop :=
  (if a18 ≤ (3 : Int32) then gL_isBegun_328 lo t Ls xs K h L a9 a10 a11 a12 a13 a17 s1 (s2 ||| s3) (0 : Int64) else gL_isBegun_328 lo t Ls xs K h L a9 a10 a11 a12 a13 a17 s1 (s2 ||| s3) (1073741824 : Int64))
set_option maxHeartbeats 4000000 in
set_option maxRecDepth 100000 in
theorem wkL_isBegun_314 {l : Launch} {g : xG} {x0 : xV} {b lo t Ls : Nat} {xs : Nat → Int32} {K : Int32 → TH → MS → Prop} {kc ks : Nat} (hl : l.stackTraces = false) (hb : b + 8 < lo) (hb0 : b < x0.1 ∧ x0.2 b = none) (h : TH) (L : MS) (a9 : Int32) (a10 : Int32) (a11 : Int32) (a12 : Int32) (a13 : Int32) (a17 : Int32) (a18 : Int32) (s1 : Int32) (s2 : Int64) (s3 : Int64) (hD : LDp lo h) (hc : kc + (125) ≤ 125 ∧ ks + (750) ≤ 750) (hf : gL_isBegun_314 lo t Ls xs K h L a9 a10 a11 a12 a13 a17 a18 s1 s2 s3) : AWG (XS b Ls xs) (zR rmL_isBegun g lo x0 K) ML_isBegun rmL_isBegun l g x0 kc ks (LW g lo h L) 314 [(0, va_rf (some t)), (2, .ref (lo + 1)), (3, .ref (lo + 2)), (6, .ref (lo + 5)), (8, .ref (lo + 7)), (9, .int a9), (10, .int a10), (11, .int a11), (12, .int a12), (13, .int a13), (17, .int a17), (18, .int a18)] [.long s3, .long s2, .int s1, .ref (lo + 0)] := by
  rw [gL_isBegun_314] at hf
  refine ag_lor dL_isBegun_314 ?_
  refine ag_iload 11 dL_isBegun_315 rfl ?_
  refine ag_iconst (3 : Int32) dL_isBegun_317 (by decide) ?_
  refine ag_icmp_le 327 dL_isBegun_318 (by decide) (fun c1 => ?_) (fun c1 => ?_)
  · rw [if_pos c1] at hf
    refine ag_lconst (0 : Int64) dL_isBegun_327 (by decide) ?_
    refine ag_lv [0, 1, 2, 3, 4, 5, 6, 7, 8, 9, 10] rfl ?_
    exact wkL_isBegun_328 hl hb hb0 _ _ _ _ _ _ _ _ _ _ _ hD ⟨show kc + (125) ≤ 125 by omega, show ks + (750) ≤ 750 by omega⟩ hf
  · rw [if_neg c1] at hf
    refine ag_ldc2 (1073741824 : Int64) rfl (wl4 (i := 80) rfl rfl) dL_isBegun_321 ?_
    refine ag_goto 328 dL_isBegun_324 (by decide) ?_
    refine ag_lv [0, 1, 2, 3, 4, 5, 6, 7, 8, 9, 10] rfl ?_
    exact wkL_isBegun_328 hl hb hb0 _ _ _ _ _ _ _ _ _ _ _ hD ⟨show kc + (125) ≤ 125 by omega, show ks + (750) ≤ 750 by omega⟩ hf
def gL_isBegun_210 (lo t Ls : Nat) (xs : Nat → Int32) (K : Int32 → TH → MS → Prop) (h : TH) (L : MS) (a9 : Int32) (a10 : Int32) (a11 : Int32) (a12 : Int32) (a13 : Int32) (a16 : Int32) (s0 : Int32) : Prop :=
  (if a16 = 0 then gL_isBegun_401 lo t Ls xs K h L a9 a10 a11 a12 a13 s0 else (xin s0 64 = true ∧ (∃ q3, fL_told (ms_I L 4 s0.toNatClampNeg (((10 : Int32) * a9) + a10)) a9 a10 = some q3 ∧ (xin ((16 : Int32) + s0) 64 = true ∧ (∃ W5, (ms_I (ms_I L 4 s0.toNatClampNeg (((10 : Int32) * a9) + a10)) 4 ((16 : Int32) + s0).toNatClampNeg q3) = W5 ∧ (xin ((32 : Int32) + s0) 64 = true ∧ (xin ((48 : Int32) + s0) 64 = true ∧ (∃ W8, (ms_I (ms_I W5 4 ((32 : Int32) + s0).toNatClampNeg (0 : Int32)) 4 ((48 : Int32) + s0).toNatClampNeg ((2 : Int32) * (m_I (ms_I W5 4 ((32 : Int32) + s0).toNatClampNeg (0 : Int32)) 7 (3 : Int32).toNatClampNeg))) = W8 ∧ (if (2 : Int32) ≤ ((m_I W8 4 ((16 : Int32) + s0).toNatClampNeg) - (m_I W8 4 ((16 : Int32) + s0).toNatClampNeg) / (10 : Int32) * (10 : Int32)) then (if ((m_I W8 4 ((16 : Int32) + s0).toNatClampNeg) - (m_I W8 4 ((16 : Int32) + s0).toNatClampNeg) / (10 : Int32) * (10 : Int32)) ≤ (2 : Int32) then gL_isBegun_314 lo t Ls xs K h W8 a9 a10 a11 a12 a13 s0 ((m_I W8 4 ((16 : Int32) + s0).toNatClampNeg) - (m_I W8 4 ((16 : Int32) + s0).toNatClampNeg) / (10 : Int32) * (10 : Int32)) (m_I W8 7 (2 : Int32).toNatClampNeg) (4295032832 : Int64) (0 : Int64) else gL_isBegun_314 lo t Ls xs K h W8 a9 a10 a11 a12 a13 s0 ((m_I W8 4 ((16 : Int32) + s0).toNatClampNeg) - (m_I W8 4 ((16 : Int32) + s0).toNatClampNeg) / (10 : Int32) * (10 : Int32)) (m_I W8 7 (2 : Int32).toNatClampNeg) (4295032832 : Int64) (262144 : Int64)) else gL_isBegun_329 lo t Ls xs K h W8 a9 a10 a11 a12 a13 s0 (m_I W8 7 (2 : Int32).toNatClampNeg) (0 : Int64))))))))))
set_option maxHeartbeats 4000000 in
set_option maxRecDepth 100000 in
theorem wkL_isBegun_210 {l : Launch} {g : xG} {x0 : xV} {b lo t Ls : Nat} {xs : Nat → Int32} {K : Int32 → TH → MS → Prop} {kc ks : Nat} (hl : l.stackTraces = false) (hb : b + 8 < lo) (hb0 : b < x0.1 ∧ x0.2 b = none) (h : TH) (L : MS) (a9 : Int32) (a10 : Int32) (a11 : Int32) (a12 : Int32) (a13 : Int32) (a16 : Int32) (s0 : Int32) (hD : LDp lo h) (hc : kc + (125) ≤ 125 ∧ ks + (750) ≤ 750) (hf : gL_isBegun_210 lo t Ls xs K h L a9 a10 a11 a12 a13 a16 s0) : AWG (XS b Ls xs) (zR rmL_isBegun g lo x0 K) ML_isBegun rmL_isBegun l g x0 kc ks (LW g lo h L) 210 [(0, va_rf (some t)), (1, .ref (lo + 0)), (2, .ref (lo + 1)), (3, .ref (lo + 2)), (4, .ref (lo + 3)), (5, .ref (lo + 4)), (6, .ref (lo + 5)), (8, .ref (lo + 7)), (9, .int a9), (10, .int a10), (11, .int a11), (12, .int a12), (13, .int a13), (16, .int a16)] [.int s0] := by
  rw [gL_isBegun_210] at hf
  refine ag_istore [(17, .int s0), (0, va_rf (some t)), (1, .ref (lo + 0)), (2, .ref (lo + 1)), (3, .ref (lo + 2)), (4, .ref (lo + 3)), (5, .ref (lo + 4)), (6, .ref (lo + 5)), (8, .ref (lo + 7)), (9, .int a9), (10, .int a10), (11, .int a11), (12, .int a12), (13, .int a13), (16, .int a16)] dL_isBegun_210 (by decide) rfl ?_
  refine ag_iload 14 dL_isBegun_212 rfl ?_
  refine ag_if_eq 401 dL_isBegun_214 (by decide) (fun c1 => ?_) (fun c1 => ?_)
  · rw [if_pos c1] at hf
    refine ag_lv [1, 9, 10, 11, 12, 13, 0] rfl ?_
    exact wkL_isBegun_401 hl hb hb0 _ _ _ _ _ _ _ _ hD ⟨show kc + (125) ≤ 125 by omega, show ks + (750) ≤ 750 by omega⟩ hf
  · rw [if_neg c1] at hf
    refine ag_aload 6 dL_isBegun_217 rfl ?_
    refine ag_iload 0 dL_isBegun_219 rfl ?_
    refine ag_bipush (10 : Int32) dL_isBegun_221 (by decide) ?_
    refine ag_iload 9 dL_isBegun_223 rfl ?_
    refine ag_imul dL_isBegun_225 ?_
    refine ag_iload 10 dL_isBegun_226 rfl ?_
    refine ag_iadd dL_isBegun_228 ?_
    obtain ⟨hi2, hf⟩ := hf
    refine ar_iast 4 64 hD rfl (by decide) (xin_v hi2) dL_isBegun_229 ?_
    refine ag_aload 6 dL_isBegun_230 rfl ?_
    refine ag_bipush (16 : Int32) dL_isBegun_232 (by decide) ?_
    refine ag_iload 0 dL_isBegun_234 rfl ?_
    refine ag_iadd dL_isBegun_236 ?_
    refine ag_aload 5 dL_isBegun_237 rfl ?_
    refine ag_iload 9 dL_isBegun_239 rfl ?_
    refine ag_iload 10 dL_isBegun_241 rfl ?_
    obtain ⟨q3, hq3, hf⟩ := hf
    refine ag_callS [.ref (lo + 3), .int a9, .int a10] 3 (ctA hD (ctL_told hl _ _ _ hq3)) ⟨wl4 (i := 46) rfl rfl, ciL_told⟩ (wl4 (i := 47) rfl rfl) dL_isBegun_243 rfl rfl (Nat.le_of_ble_eq_true rfl) ⟨Nat.le_of_ble_eq_true rfl, Nat.le_of_ble_eq_true rfl⟩ ⟨show kc + 0 + 0 ≤ 125 by omega, show ks + 0 + 0 ≤ 750 by omega⟩ (fun _ => ?_)
    obtain ⟨hi4, hf⟩ := hf
    obtain ⟨W5, hW5, hf⟩ := hf
    refine ar_iast 4 64 hD rfl (by decide) (xin_v hi4) dL_isBegun_246 ?_
    rw [hW5]
    refine ag_aload 6 dL_isBegun_247 rfl ?_
    refine ag_bipush (32 : Int32) dL_isBegun_249 (by decide) ?_
    refine ag_iload 0 dL_isBegun_251 rfl ?_
    refine ag_iadd dL_isBegun_253 ?_
    refine ag_iconst (0 : Int32) dL_isBegun_254 (by decide) ?_
    obtain ⟨hi6, hf⟩ := hf
    refine ar_iast 4 64 hD rfl (by decide) (xin_v hi6) dL_isBegun_255 ?_
    refine ag_aload 6 dL_isBegun_256 rfl ?_
    refine ag_bipush (48 : Int32) dL_isBegun_258 (by decide) ?_
    refine ag_iload 0 dL_isBegun_260 rfl ?_
    refine ag_iadd dL_isBegun_262 ?_
    refine ag_iconst (2 : Int32) dL_isBegun_263 (by decide) ?_
    refine ag_aload 8 dL_isBegun_264 rfl ?_
    refine ag_iconst (3 : Int32) dL_isBegun_266 (by decide) ?_
    refine ar_iald 7 5 hD rfl (by decide) (xin_v (by decide)) dL_isBegun_267 ?_
    refine ag_imul dL_isBegun_268 ?_
    obtain ⟨hi7, hf⟩ := hf
    obtain ⟨W8, hW8, hf⟩ := hf
    refine ar_iast 4 64 hD rfl (by decide) (xin_v hi7) dL_isBegun_269 ?_
    rw [hW8]
    refine ag_aload 6 dL_isBegun_270 rfl ?_
    refine ag_bipush (16 : Int32) dL_isBegun_272 (by decide) ?_
    refine ag_iload 0 dL_isBegun_274 rfl ?_
    refine ag_iadd dL_isBegun_276 ?_
    refine ar_iald 4 64 hD rfl (by decide) (xin_v hi4) dL_isBegun_277 ?_
    refine ag_bipush (10 : Int32) dL_isBegun_278 (by decide) ?_
    refine ag_irem dL_isBegun_280 (by decide) ?_
    refine ag_istore [(18, .int ((m_I W8 4 ((16 : Int32) + s0).toNatClampNeg) - (m_I W8 4 ((16 : Int32) + s0).toNatClampNeg) / (10 : Int32) * (10 : Int32))), (17, .int s0), (0, va_rf (some t)), (1, .ref (lo + 0)), (2, .ref (lo + 1)), (3, .ref (lo + 2)), (4, .ref (lo + 3)), (5, .ref (lo + 4)), (6, .ref (lo + 5)), (8, .ref (lo + 7)), (9, .int a9), (10, .int a10), (11, .int a11), (12, .int a12), (13, .int a13), (16, .int a16)] dL_isBegun_281 (by decide) rfl ?_
    refine ag_aload_n 3 dL_isBegun_283 rfl ?_
    refine ag_aload 9 dL_isBegun_284 rfl ?_
    refine ag_iconst (2 : Int32) dL_isBegun_286 (by decide) ?_
    refine ar_iald 7 5 hD rfl (by decide) (xin_v (by decide)) dL_isBegun_287 ?_
    refine ag_iload 0 dL_isBegun_288 rfl ?_
    refine ag_iconst (2 : Int32) dL_isBegun_290 (by decide) ?_
    refine ag_icmp_ge 298 dL_isBegun_291 (by decide) (fun c9 => ?_) (fun c9 => ?_)
    · rw [if_pos c9] at hf
      refine ag_ldc2 (4295032832 : Int64) rfl (wl4 (i := 78) rfl rfl) dL_isBegun_298 ?_
      refine ag_iload 0 dL_isBegun_301 rfl ?_
      refine ag_iconst (2 : Int32) dL_isBegun_303 (by decide) ?_
      refine ag_icmp_le 313 dL_isBegun_304 (by decide) (fun c10 => ?_) (fun c10 => ?_)
      · rw [if_pos c10] at hf
        refine ag_lconst (0 : Int64) dL_isBegun_313 (by decide) ?_
        refine ag_lv [2, 4, 5, 8, 9, 10, 11, 12, 13, 14, 1, 0] rfl ?_
        exact wkL_isBegun_314 hl hb hb0 _ _ _ _ _ _ _ _ _ _ _ _ hD ⟨show kc + 0 + (125) ≤ 125 by omega, show ks + 0 + (750) ≤ 750 by omega⟩ hf
      · rw [if_neg c10] at hf
        refine ag_ldc2 (262144 : Int64) rfl (wl4 (i := 79) rfl rfl) dL_isBegun_307 ?_
        refine ag_goto 314 dL_isBegun_310 (by decide) ?_
        refine ag_lv [2, 4, 5, 8, 9, 10, 11, 12, 13, 14, 1, 0] rfl ?_
        exact wkL_isBegun_314 hl hb hb0 _ _ _ _ _ _ _ _ _ _ _ _ hD ⟨show kc + 0 + (125) ≤ 125 by omega, show ks + 0 + (750) ≤ 750 by omega⟩ hf
    · rw [if_neg c9] at hf
      refine ag_lconst (0 : Int64) dL_isBegun_294 (by decide) ?_
      refine ag_goto 329 dL_isBegun_295 (by decide) ?_
      refine ag_lv [2, 4, 5, 8, 9, 10, 11, 12, 13, 14, 1] rfl ?_
      exact wkL_isBegun_329 hl hb hb0 _ _ _ _ _ _ _ _ _ _ hD ⟨show kc + 0 + (125) ≤ 125 by omega, show ks + 0 + (750) ≤ 750 by omega⟩ hf
def gL_isBegun_174 (lo t Ls : Nat) (xs : Nat → Int32) (K : Int32 → TH → MS → Prop) (h : TH) (L : MS) (a9 : Int32) (a10 : Int32) (a11 : Int32) (a12 : Int32) (a13 : Int32) (a14 : Int32) (a15 : Int32) (a16 : Int32) : Prop :=
  (if a14 = 0 then gL_isBegun_210 lo t Ls xs K h L a9 a10 a11 a12 a13 a16 (-300 : Int32) else (if a15 = 0 then gL_isBegun_210 lo t Ls xs K h L a9 a10 a11 a12 a13 a16 (-200 : Int32) else (if a16 = 0 then gL_isBegun_210 lo t Ls xs K h L a9 a10 a11 a12 a13 a16 (-100 : Int32) else gL_isBegun_210 lo t Ls xs K h L a9 a10 a11 a12 a13 a16 (m_I L 7 (1 : Int32).toNatClampNeg))))
set_option maxHeartbeats 4000000 in
set_option maxRecDepth 100000 in
theorem wkL_isBegun_174 {l : Launch} {g : xG} {x0 : xV} {b lo t Ls : Nat} {xs : Nat → Int32} {K : Int32 → TH → MS → Prop} {kc ks : Nat} (hl : l.stackTraces = false) (hb : b + 8 < lo) (hb0 : b < x0.1 ∧ x0.2 b = none) (h : TH) (L : MS) (a9 : Int32) (a10 : Int32) (a11 : Int32) (a12 : Int32) (a13 : Int32) (a14 : Int32) (a15 : Int32) (a16 : Int32) (hD : LDp lo h) (hc : kc + (125) ≤ 125 ∧ ks + (750) ≤ 750) (hf : gL_isBegun_174 lo t Ls xs K h L a9 a10 a11 a12 a13 a14 a15 a16) : AWG (XS b Ls xs) (zR rmL_isBegun g lo x0 K) ML_isBegun rmL_isBegun l g x0 kc ks (LW g lo h L) 174 [(0, va_rf (some t)), (1, .ref (lo + 0)), (2, .ref (lo + 1)), (3, .ref (lo + 2)), (4, .ref (lo + 3)), (5, .ref (lo + 4)), (6, .ref (lo + 5)), (8, .ref (lo + 7)), (9, .int a9), (10, .int a10), (11, .int a11), (12, .int a12), (13, .int a13), (14, .int a14), (15, .int a15), (16, .int a16)] [] := by
  rw [gL_isBegun_174] at hf
  refine ag_iload 13 dL_isBegun_174 rfl ?_
  refine ag_if_ne 185 dL_isBegun_176 (by decide) (fun c1 => ?_) (fun c1 => ?_)
  · rw [if_neg c1] at hf
    refine ag_iload 14 dL_isBegun_185 rfl ?_
    refine ag_if_ne 196 dL_isBegun_187 (by decide) (fun c2 => ?_) (fun c2 => ?_)
    · rw [if_neg c2] at hf
      refine ag_iload 15 dL_isBegun_196 rfl ?_
      refine ag_if_eq 208 dL_isBegun_198 (by decide) (fun c3 => ?_) (fun c3 => ?_)
      · rw [if_pos c3] at hf
        refine ag_bipush (-100 : Int32) dL_isBegun_208 (by decide) ?_
        refine ag_lv [0, 1, 2, 3, 4, 5, 6, 7, 8, 9, 10, 11, 12, 15] rfl ?_
        exact wkL_isBegun_210 hl hb hb0 _ _ _ _ _ _ _ _ _ hD ⟨show kc + (125) ≤ 125 by omega, show ks + (750) ≤ 750 by omega⟩ hf
      · rw [if_neg c3] at hf
        refine ag_aload 7 dL_isBegun_201 rfl ?_
        refine ag_iconst (1 : Int32) dL_isBegun_203 (by decide) ?_
        refine ar_iald 7 5 hD rfl (by decide) (xin_v (by decide)) dL_isBegun_204 ?_
        refine ag_goto 210 dL_isBegun_205 (by decide) ?_
        refine ag_lv [0, 1, 2, 3, 4, 5, 6, 7, 8, 9, 10, 11, 12, 15] rfl ?_
        exact wkL_isBegun_210 hl hb hb0 _ _ _ _ _ _ _ _ _ hD ⟨show kc + (125) ≤ 125 by omega, show ks + (750) ≤ 750 by omega⟩ hf
    · rw [if_pos c2] at hf
      refine ag_sipush (-200 : Int32) dL_isBegun_190 (by decide) ?_
      refine ag_goto 210 dL_isBegun_193 (by decide) ?_
      refine ag_lv [0, 1, 2, 3, 4, 5, 6, 7, 8, 9, 10, 11, 12, 15] rfl ?_
      exact wkL_isBegun_210 hl hb hb0 _ _ _ _ _ _ _ _ _ hD ⟨show kc + (125) ≤ 125 by omega, show ks + (750) ≤ 750 by omega⟩ hf
  · rw [if_pos c1] at hf
    refine ag_sipush (-300 : Int32) dL_isBegun_179 (by decide) ?_
    refine ag_goto 210 dL_isBegun_182 (by decide) ?_
    refine ag_lv [0, 1, 2, 3, 4, 5, 6, 7, 8, 9, 10, 11, 12, 15] rfl ?_
    exact wkL_isBegun_210 hl hb hb0 _ _ _ _ _ _ _ _ _ hD ⟨show kc + (125) ≤ 125 by omega, show ks + (750) ≤ 750 by omega⟩ hf
def gL_isBegun_166 (lo t Ls : Nat) (xs : Nat → Int32) (K : Int32 → TH → MS → Prop) (k88 : TH → MS → Int32 → Int32 → Int32 → Int32 → Int32 → Int32 → Int32 → Int32 → Int32 → Prop) (h : TH) (L : MS) (a9 : Int32) (a10 : Int32) (a11 : Int32) (a12 : Int32) (a13 : Int32) (a14 : Int32) (a15 : Int32) (a17 : Int32) (s0 : Int32) : Prop :=
  k88 h L a9 a10 a11 a12 a13 a14 a15 s0 (a17 + (1 : Int32))
set_option maxHeartbeats 4000000 in
set_option maxRecDepth 100000 in
theorem wkL_isBegun_166 {l : Launch} {g : xG} {x0 : xV} {b lo t Ls : Nat} {xs : Nat → Int32} {K : Int32 → TH → MS → Prop} {kc ks : Nat} (hl : l.stackTraces = false) (hb : b + 8 < lo) (hb0 : b < x0.1 ∧ x0.2 b = none) (k88 : TH → MS → Int32 → Int32 → Int32 → Int32 → Int32 → Int32 → Int32 → Int32 → Int32 → Prop) (hk88 : ∀ (kc ks : Nat) (h : TH) (L : MS) (a9 : Int32) (a10 : Int32) (a11 : Int32) (a12 : Int32) (a13 : Int32) (a14 : Int32) (a15 : Int32) (a16 : Int32) (a17 : Int32), LDp lo h → (kc + (125) ≤ 125 ∧ ks + (750) ≤ 750) → k88 h L a9 a10 a11 a12 a13 a14 a15 a16 a17 → AWG (XS b Ls xs) (zR rmL_isBegun g lo x0 K) ML_isBegun rmL_isBegun l g x0 kc ks (LW g lo h L) 88 [(0, va_rf (some t)), (1, .ref (lo + 0)), (2, .ref (lo + 1)), (3, .ref (lo + 2)), (4, .ref (lo + 3)), (5, .ref (lo + 4)), (6, .ref (lo + 5)), (8, .ref (lo + 7)), (9, .int a9), (10, .int a10), (11, .int a11), (12, .int a12), (13, .int a13), (14, .int a14), (15, .int a15), (16, .int a16), (17, .int a17)] []) (h : TH) (L : MS) (a9 : Int32) (a10 : Int32) (a11 : Int32) (a12 : Int32) (a13 : Int32) (a14 : Int32) (a15 : Int32) (a17 : Int32) (s0 : Int32) (hD : LDp lo h) (hc : kc + (125) ≤ 125 ∧ ks + (750) ≤ 750) (hf : gL_isBegun_166 lo t Ls xs K k88 h L a9 a10 a11 a12 a13 a14 a15 a17 s0) : AWG (XS b Ls xs) (zR rmL_isBegun g lo x0 K) ML_isBegun rmL_isBegun l g x0 kc ks (LW g lo h L) 166 [(0, va_rf (some t)), (1, .ref (lo + 0)), (2, .ref (lo + 1)), (3, .ref (lo + 2)), (4, .ref (lo + 3)), (5, .ref (lo + 4)), (6, .ref (lo + 5)), (8, .ref (lo + 7)), (9, .int a9), (10, .int a10), (11, .int a11), (12, .int a12), (13, .int a13), (14, .int a14), (15, .int a15), (17, .int a17)] [.int s0] := by
  rw [gL_isBegun_166] at hf
  refine ag_istore [(16, .int s0), (0, va_rf (some t)), (1, .ref (lo + 0)), (2, .ref (lo + 1)), (3, .ref (lo + 2)), (4, .ref (lo + 3)), (5, .ref (lo + 4)), (6, .ref (lo + 5)), (8, .ref (lo + 7)), (9, .int a9), (10, .int a10), (11, .int a11), (12, .int a12), (13, .int a13), (14, .int a14), (15, .int a15), (17, .int a17)] dL_isBegun_166 (by decide) rfl ?_
  refine ag_iinc [(17, .int (a17 + (1 : Int32))), (16, .int s0), (0, va_rf (some t)), (1, .ref (lo + 0)), (2, .ref (lo + 1)), (3, .ref (lo + 2)), (4, .ref (lo + 3)), (5, .ref (lo + 4)), (6, .ref (lo + 5)), (8, .ref (lo + 7)), (9, .int a9), (10, .int a10), (11, .int a11), (12, .int a12), (13, .int a13), (14, .int a14), (15, .int a15)] 16 dL_isBegun_168 rfl rfl (by decide) rfl ?_
  refine ag_goto 88 dL_isBegun_171 (by decide) ?_
  refine ag_lv [2, 3, 4, 5, 6, 7, 8, 9, 10, 11, 12, 13, 14, 15, 16, 1, 0] rfl ?_
  exact hk88 _ _ _ _ _ _ _ _ _ _ _ _ _ hD ⟨show kc + (125) ≤ 125 by omega, show ks + (750) ≤ 750 by omega⟩ hf
def gL_isBegun_88 (lo t Ls : Nat) (xs : Nat → Int32) (K : Int32 → TH → MS → Prop) : Nat → TH → MS → Int32 → Int32 → Int32 → Int32 → Int32 → Int32 → Int32 → Int32 → Int32 → Prop
  | 0, _, _, _, _, _, _, _, _, _, _, _ => False
  | n + 1, h, L, a9, a10, a11, a12, a13, a14, a15, a16, a17 =>
    (if (m_I L 7 (1 : Int32).toNatClampNeg) ≤ a17 then gL_isBegun_174 lo t Ls xs K h L a9 a10 a11 a12 a13 a14 a15 a16 else (if a16 = 0 then gL_isBegun_174 lo t Ls xs K h L a9 a10 a11 a12 a13 a14 a15 a16 else (xin a17 64 = true ∧ (xin ((32 : Int32) + a17) 64 = true ∧ (if 0 < (m_I L 4 ((32 : Int32) + a17).toNatClampNeg) then gL_isBegun_166 lo t Ls xs K (gL_isBegun_88 lo t Ls xs K n) h L a9 a10 a11 a12 a13 a14 a15 a17 (1 : Int32) else (if ((m_I L 4 a17.toNatClampNeg) / (10 : Int32)) = a9 then gL_isBegun_166 lo t Ls xs K (gL_isBegun_88 lo t Ls xs K n) h L a9 a10 a11 a12 a13 a14 a15 a17 (0 : Int32) else (if ((m_I L 4 a17.toNatClampNeg) - (m_I L 4 a17.toNatClampNeg) / (10 : Int32) * (10 : Int32)) = a9 then gL_isBegun_166 lo t Ls xs K (gL_isBegun_88 lo t Ls xs K n) h L a9 a10 a11 a12 a13 a14 a15 a17 (0 : Int32) else (if ((m_I L 4 a17.toNatClampNeg) / (10 : Int32)) = a10 then gL_isBegun_166 lo t Ls xs K (gL_isBegun_88 lo t Ls xs K n) h L a9 a10 a11 a12 a13 a14 a15 a17 (0 : Int32) else (if ((m_I L 4 a17.toNatClampNeg) - (m_I L 4 a17.toNatClampNeg) / (10 : Int32) * (10 : Int32)) = a10 then gL_isBegun_166 lo t Ls xs K (gL_isBegun_88 lo t Ls xs K n) h L a9 a10 a11 a12 a13 a14 a15 a17 (0 : Int32) else gL_isBegun_166 lo t Ls xs K (gL_isBegun_88 lo t Ls xs K n) h L a9 a10 a11 a12 a13 a14 a15 a17 (1 : Int32))))))))))
set_option maxHeartbeats 4000000 in
set_option maxRecDepth 100000 in
theorem wkL_isBegun_88 {l : Launch} {g : xG} {x0 : xV} {b lo t Ls : Nat} {xs : Nat → Int32} {K : Int32 → TH → MS → Prop} (hl : l.stackTraces = false) (hb : b + 8 < lo) (hb0 : b < x0.1 ∧ x0.2 b = none) : ∀ (n kc ks : Nat) (h : TH) (L : MS) (a9 : Int32) (a10 : Int32) (a11 : Int32) (a12 : Int32) (a13 : Int32) (a14 : Int32) (a15 : Int32) (a16 : Int32) (a17 : Int32), LDp lo h → (kc + (125) ≤ 125 ∧ ks + (750) ≤ 750) → gL_isBegun_88 lo t Ls xs K n h L a9 a10 a11 a12 a13 a14 a15 a16 a17 → AWG (XS b Ls xs) (zR rmL_isBegun g lo x0 K) ML_isBegun rmL_isBegun l g x0 kc ks (LW g lo h L) 88 [(0, va_rf (some t)), (1, .ref (lo + 0)), (2, .ref (lo + 1)), (3, .ref (lo + 2)), (4, .ref (lo + 3)), (5, .ref (lo + 4)), (6, .ref (lo + 5)), (8, .ref (lo + 7)), (9, .int a9), (10, .int a10), (11, .int a11), (12, .int a12), (13, .int a13), (14, .int a14), (15, .int a15), (16, .int a16), (17, .int a17)] [] := by
  intro n
  induction n with
  | zero => intro kc ks h L a9 a10 a11 a12 a13 a14 a15 a16 a17 hD hc hf; exact absurd hf (by simp [gL_isBegun_88])
  | succ n hk88 =>
    intro kc ks h L a9 a10 a11 a12 a13 a14 a15 a16 a17 hD hc hf
    rw [gL_isBegun_88] at hf
    refine ag_iload 16 dL_isBegun_88 rfl ?_
    refine ag_aload 7 dL_isBegun_90 rfl ?_
    refine ag_iconst (1 : Int32) dL_isBegun_92 (by decide) ?_
    refine ar_iald 7 5 hD rfl (by decide) (xin_v (by decide)) dL_isBegun_93 ?_
    refine ag_icmp_ge 174 dL_isBegun_94 (by decide) (fun c1 => ?_) (fun c1 => ?_)
    · rw [if_pos c1] at hf
      refine ag_lv [0, 1, 2, 3, 4, 5, 6, 7, 8, 9, 10, 11, 12, 13, 14, 15] rfl ?_
      exact wkL_isBegun_174 hl hb hb0 _ _ _ _ _ _ _ _ _ _ hD ⟨show kc + (125) ≤ 125 by omega, show ks + (750) ≤ 750 by omega⟩ hf
    · rw [if_neg c1] at hf
      refine ag_iload 15 dL_isBegun_97 rfl ?_
      refine ag_if_eq 174 dL_isBegun_99 (by decide) (fun c2 => ?_) (fun c2 => ?_)
      · rw [if_pos c2] at hf
        refine ag_lv [0, 1, 2, 3, 4, 5, 6, 7, 8, 9, 10, 11, 12, 13, 14, 15] rfl ?_
        exact wkL_isBegun_174 hl hb hb0 _ _ _ _ _ _ _ _ _ _ hD ⟨show kc + (125) ≤ 125 by omega, show ks + (750) ≤ 750 by omega⟩ hf
      · rw [if_neg c2] at hf
        refine ag_aload 5 dL_isBegun_102 rfl ?_
        refine ag_iload 16 dL_isBegun_104 rfl ?_
        obtain ⟨hi3, hf⟩ := hf
        refine ar_iald 4 64 hD rfl (by decide) (xin_v hi3) dL_isBegun_106 ?_
        refine ag_bipush (10 : Int32) dL_isBegun_107 (by decide) ?_
        refine ag_idiv dL_isBegun_109 (by decide) ?_
        refine ag_istore [(18, .int ((m_I L 4 a17.toNatClampNeg) / (10 : Int32))), (0, va_rf (some t)), (1, .ref (lo + 0)), (2, .ref (lo + 1)), (3, .ref (lo + 2)), (4, .ref (lo + 3)), (5, .ref (lo + 4)), (6, .ref (lo + 5)), (8, .ref (lo + 7)), (9, .int a9), (10, .int a10), (11, .int a11), (12, .int a12), (13, .int a13), (14, .int a14), (15, .int a15), (16, .int a16), (17, .int a17)] dL_isBegun_110 (by decide) rfl ?_
        refine ag_aload 6 dL_isBegun_112 rfl ?_
        refine ag_iload 17 dL_isBegun_114 rfl ?_
        refine ar_iald 4 64 hD rfl (by decide) (xin_v hi3) dL_isBegun_116 ?_
        refine ag_bipush (10 : Int32) dL_isBegun_117 (by decide) ?_
        refine ag_irem dL_isBegun_119 (by decide) ?_
        refine ag_istore [(19, .int ((m_I L 4 a17.toNatClampNeg) - (m_I L 4 a17.toNatClampNeg) / (10 : Int32) * (10 : Int32))), (18, .int ((m_I L 4 a17.toNatClampNeg) / (10 : Int32))), (0, va_rf (some t)), (1, .ref (lo + 0)), (2, .ref (lo + 1)), (3, .ref (lo + 2)), (4, .ref (lo + 3)), (5, .ref (lo + 4)), (6, .ref (lo + 5)), (8, .ref (lo + 7)), (9, .int a9), (10, .int a10), (11, .int a11), (12, .int a12), (13, .int a13), (14, .int a14), (15, .int a15), (16, .int a16), (17, .int a17)] dL_isBegun_120 (by decide) rfl ?_
        refine ag_aload 7 dL_isBegun_122 rfl ?_
        refine ag_bipush (32 : Int32) dL_isBegun_124 (by decide) ?_
        refine ag_iload 18 dL_isBegun_126 rfl ?_
        refine ag_iadd dL_isBegun_128 ?_
        obtain ⟨hi4, hf⟩ := hf
        refine ar_iald 4 64 hD rfl (by decide) (xin_v hi4) dL_isBegun_129 ?_
        refine ag_if_gt 161 dL_isBegun_130 (by decide) (fun c5 => ?_) (fun c5 => ?_)
        · rw [if_pos c5] at hf
          refine ag_iconst (1 : Int32) dL_isBegun_161 (by decide) ?_
          refine ag_goto 166 dL_isBegun_162 (by decide) ?_
          refine ag_lv [2, 3, 4, 5, 6, 7, 8, 9, 10, 11, 12, 13, 14, 15, 16, 18] rfl ?_
          exact wkL_isBegun_166 hl hb hb0 _ hk88 _ _ _ _ _ _ _ _ _ _ _ hD ⟨show kc + (125) ≤ 125 by omega, show ks + (750) ≤ 750 by omega⟩ hf
        · rw [if_neg c5] at hf
          refine ag_iload 1 dL_isBegun_133 rfl ?_
          refine ag_iload 10 dL_isBegun_135 rfl ?_
          refine ag_icmp_eq 165 dL_isBegun_137 (by decide) (fun c6 => ?_) (fun c6 => ?_)
          · rw [if_pos c6] at hf
            refine ag_iconst (0 : Int32) dL_isBegun_165 (by decide) ?_
            refine ag_lv [2, 3, 4, 5, 6, 7, 8, 9, 10, 11, 12, 13, 14, 15, 16, 18] rfl ?_
            exact wkL_isBegun_166 hl hb hb0 _ hk88 _ _ _ _ _ _ _ _ _ _ _ hD ⟨show kc + (125) ≤ 125 by omega, show ks + (750) ≤ 750 by omega⟩ hf
          · rw [if_neg c6] at hf
            refine ag_iload 0 dL_isBegun_140 rfl ?_
            refine ag_iload 10 dL_isBegun_142 rfl ?_
            refine ag_icmp_eq 165 dL_isBegun_144 (by decide) (fun c7 => ?_) (fun c7 => ?_)
            · rw [if_pos c7] at hf
              refine ag_iconst (0 : Int32) dL_isBegun_165 (by decide) ?_
              refine ag_lv [2, 3, 4, 5, 6, 7, 8, 9, 10, 11, 12, 13, 14, 15, 16, 18] rfl ?_
              exact wkL_isBegun_166 hl hb hb0 _ hk88 _ _ _ _ _ _ _ _ _ _ _ hD ⟨show kc + (125) ≤ 125 by omega, show ks + (750) ≤ 750 by omega⟩ hf
            · rw [if_neg c7] at hf
              refine ag_iload 1 dL_isBegun_147 rfl ?_
              refine ag_iload 11 dL_isBegun_149 rfl ?_
              refine ag_icmp_eq 165 dL_isBegun_151 (by decide) (fun c8 => ?_) (fun c8 => ?_)
              · rw [if_pos c8] at hf
                refine ag_iconst (0 : Int32) dL_isBegun_165 (by decide) ?_
                refine ag_lv [2, 3, 4, 5, 6, 7, 8, 9, 10, 11, 12, 13, 14, 15, 16, 18] rfl ?_
                exact wkL_isBegun_166 hl hb hb0 _ hk88 _ _ _ _ _ _ _ _ _ _ _ hD ⟨show kc + (125) ≤ 125 by omega, show ks + (750) ≤ 750 by omega⟩ hf
              · rw [if_neg c8] at hf
                refine ag_iload 0 dL_isBegun_154 rfl ?_
                refine ag_iload 11 dL_isBegun_156 rfl ?_
                refine ag_icmp_eq 165 dL_isBegun_158 (by decide) (fun c9 => ?_) (fun c9 => ?_)
                · rw [if_pos c9] at hf
                  refine ag_iconst (0 : Int32) dL_isBegun_165 (by decide) ?_
                  refine ag_lv [2, 3, 4, 5, 6, 7, 8, 9, 10, 11, 12, 13, 14, 15, 16, 18] rfl ?_
                  exact wkL_isBegun_166 hl hb hb0 _ hk88 _ _ _ _ _ _ _ _ _ _ _ hD ⟨show kc + (125) ≤ 125 by omega, show ks + (750) ≤ 750 by omega⟩ hf
                · rw [if_neg c9] at hf
                  refine ag_iconst (1 : Int32) dL_isBegun_161 (by decide) ?_
                  refine ag_goto 166 dL_isBegun_162 (by decide) ?_
                  refine ag_lv [2, 3, 4, 5, 6, 7, 8, 9, 10, 11, 12, 13, 14, 15, 16, 18] rfl ?_
                  exact wkL_isBegun_166 hl hb hb0 _ hk88 _ _ _ _ _ _ _ _ _ _ _ hD ⟨show kc + (125) ≤ 125 by omega, show ks + (750) ≤ 750 by omega⟩ hf
def gL_isBegun_83 (lo t Ls : Nat) (xs : Nat → Int32) (K : Int32 → TH → MS → Prop) (h : TH) (L : MS) (a9 : Int32) (a10 : Int32) (a11 : Int32) (a12 : Int32) (a13 : Int32) (a14 : Int32) (a15 : Int32) (s0 : Int32) : Prop :=
  gL_isBegun_88 lo t Ls xs K FU h L a9 a10 a11 a12 a13 a14 a15 s0 (0 : Int32)
set_option maxHeartbeats 4000000 in
set_option maxRecDepth 100000 in
theorem wkL_isBegun_83 {l : Launch} {g : xG} {x0 : xV} {b lo t Ls : Nat} {xs : Nat → Int32} {K : Int32 → TH → MS → Prop} {kc ks : Nat} (hl : l.stackTraces = false) (hb : b + 8 < lo) (hb0 : b < x0.1 ∧ x0.2 b = none) (h : TH) (L : MS) (a9 : Int32) (a10 : Int32) (a11 : Int32) (a12 : Int32) (a13 : Int32) (a14 : Int32) (a15 : Int32) (s0 : Int32) (hD : LDp lo h) (hc : kc + (125) ≤ 125 ∧ ks + (750) ≤ 750) (hf : gL_isBegun_83 lo t Ls xs K h L a9 a10 a11 a12 a13 a14 a15 s0) : AWG (XS b Ls xs) (zR rmL_isBegun g lo x0 K) ML_isBegun rmL_isBegun l g x0 kc ks (LW g lo h L) 83 [(0, va_rf (some t)), (1, .ref (lo + 0)), (2, .ref (lo + 1)), (3, .ref (lo + 2)), (4, .ref (lo + 3)), (5, .ref (lo + 4)), (6, .ref (lo + 5)), (8, .ref (lo + 7)), (9, .int a9), (10, .int a10), (11, .int a11), (12, .int a12), (13, .int a13), (14, .int a14), (15, .int a15)] [.int s0] := by
  rw [gL_isBegun_83] at hf
  refine ag_istore [(16, .int s0), (0, va_rf (some t)), (1, .ref (lo + 0)), (2, .ref (lo + 1)), (3, .ref (lo + 2)), (4, .ref (lo + 3)), (5, .ref (lo + 4)), (6, .ref (lo + 5)), (8, .ref (lo + 7)), (9, .int a9), (10, .int a10), (11, .int a11), (12, .int a12), (13, .int a13), (14, .int a14), (15, .int a15)] dL_isBegun_83 (by decide) rfl ?_
  refine ag_iconst (0 : Int32) dL_isBegun_85 (by decide) ?_
  refine ag_istore [(17, .int (0 : Int32)), (16, .int s0), (0, va_rf (some t)), (1, .ref (lo + 0)), (2, .ref (lo + 1)), (3, .ref (lo + 2)), (4, .ref (lo + 3)), (5, .ref (lo + 4)), (6, .ref (lo + 5)), (8, .ref (lo + 7)), (9, .int a9), (10, .int a10), (11, .int a11), (12, .int a12), (13, .int a13), (14, .int a14), (15, .int a15)] dL_isBegun_86 (by decide) rfl ?_
  refine ag_lv [2, 3, 4, 5, 6, 7, 8, 9, 10, 11, 12, 13, 14, 15, 16, 1, 0] rfl ?_
  exact wkL_isBegun_88 hl hb hb0 _ _ _ _ _ _ _ _ _ _ _ _ _ _ hD ⟨show kc + (125) ≤ 125 by omega, show ks + (750) ≤ 750 by omega⟩ hf
def gL_isBegun_57 (lo t Ls : Nat) (xs : Nat → Int32) (K : Int32 → TH → MS → Prop) (h : TH) (L : MS) (a9 : Int32) (a10 : Int32) (a11 : Int32) (a12 : Int32) (a13 : Int32) (a14 : Int32) (s0 : Int32) : Prop :=
  (if a14 = 0 then gL_isBegun_83 lo t Ls xs K h L a9 a10 a11 a12 a13 a14 s0 (0 : Int32) else (if s0 = 0 then gL_isBegun_83 lo t Ls xs K h L a9 a10 a11 a12 a13 a14 s0 (0 : Int32) else (if (16 : Int32) ≤ (m_I L 7 (1 : Int32).toNatClampNeg) then gL_isBegun_83 lo t Ls xs K h L a9 a10 a11 a12 a13 a14 s0 (0 : Int32) else gL_isBegun_83 lo t Ls xs K h L a9 a10 a11 a12 a13 a14 s0 (1 : Int32))))
set_option maxHeartbeats 4000000 in
set_option maxRecDepth 100000 in
theorem wkL_isBegun_57 {l : Launch} {g : xG} {x0 : xV} {b lo t Ls : Nat} {xs : Nat → Int32} {K : Int32 → TH → MS → Prop} {kc ks : Nat} (hl : l.stackTraces = false) (hb : b + 8 < lo) (hb0 : b < x0.1 ∧ x0.2 b = none) (h : TH) (L : MS) (a9 : Int32) (a10 : Int32) (a11 : Int32) (a12 : Int32) (a13 : Int32) (a14 : Int32) (s0 : Int32) (hD : LDp lo h) (hc : kc + (125) ≤ 125 ∧ ks + (750) ≤ 750) (hf : gL_isBegun_57 lo t Ls xs K h L a9 a10 a11 a12 a13 a14 s0) : AWG (XS b Ls xs) (zR rmL_isBegun g lo x0 K) ML_isBegun rmL_isBegun l g x0 kc ks (LW g lo h L) 57 [(0, va_rf (some t)), (1, .ref (lo + 0)), (2, .ref (lo + 1)), (3, .ref (lo + 2)), (4, .ref (lo + 3)), (5, .ref (lo + 4)), (6, .ref (lo + 5)), (8, .ref (lo + 7)), (9, .int a9), (10, .int a10), (11, .int a11), (12, .int a12), (13, .int a13), (14, .int a14)] [.int s0] := by
  rw [gL_isBegun_57] at hf
  refine ag_istore [(15, .int s0), (0, va_rf (some t)), (1, .ref (lo + 0)), (2, .ref (lo + 1)), (3, .ref (lo + 2)), (4, .ref (lo + 3)), (5, .ref (lo + 4)), (6, .ref (lo + 5)), (8, .ref (lo + 7)), (9, .int a9), (10, .int a10), (11, .int a11), (12, .int a12), (13, .int a13), (14, .int a14)] dL_isBegun_57 (by decide) rfl ?_
  refine ag_iload 14 dL_isBegun_59 rfl ?_
  refine ag_if_eq 82 dL_isBegun_61 (by decide) (fun c1 => ?_) (fun c1 => ?_)
  · rw [if_pos c1] at hf
    refine ag_iconst (0 : Int32) dL_isBegun_82 (by decide) ?_
    refine ag_lv [1, 2, 3, 4, 5, 6, 7, 8, 9, 10, 11, 12, 13, 14, 0] rfl ?_
    exact wkL_isBegun_83 hl hb hb0 _ _ _ _ _ _ _ _ _ _ hD ⟨show kc + (125) ≤ 125 by omega, show ks + (750) ≤ 750 by omega⟩ hf
  · rw [if_neg c1] at hf
    refine ag_iload 0 dL_isBegun_64 rfl ?_
    refine ag_if_eq 82 dL_isBegun_66 (by decide) (fun c2 => ?_) (fun c2 => ?_)
    · rw [if_pos c2] at hf
      refine ag_iconst (0 : Int32) dL_isBegun_82 (by decide) ?_
      refine ag_lv [1, 2, 3, 4, 5, 6, 7, 8, 9, 10, 11, 12, 13, 14, 0] rfl ?_
      exact wkL_isBegun_83 hl hb hb0 _ _ _ _ _ _ _ _ _ _ hD ⟨show kc + (125) ≤ 125 by omega, show ks + (750) ≤ 750 by omega⟩ hf
    · rw [if_neg c2] at hf
      refine ag_aload 8 dL_isBegun_69 rfl ?_
      refine ag_iconst (1 : Int32) dL_isBegun_71 (by decide) ?_
      refine ar_iald 7 5 hD rfl (by decide) (xin_v (by decide)) dL_isBegun_72 ?_
      refine ag_bipush (16 : Int32) dL_isBegun_73 (by decide) ?_
      refine ag_icmp_ge 82 dL_isBegun_75 (by decide) (fun c3 => ?_) (fun c3 => ?_)
      · rw [if_pos c3] at hf
        refine ag_iconst (0 : Int32) dL_isBegun_82 (by decide) ?_
        refine ag_lv [1, 2, 3, 4, 5, 6, 7, 8, 9, 10, 11, 12, 13, 14, 0] rfl ?_
        exact wkL_isBegun_83 hl hb hb0 _ _ _ _ _ _ _ _ _ _ hD ⟨show kc + (125) ≤ 125 by omega, show ks + (750) ≤ 750 by omega⟩ hf
      · rw [if_neg c3] at hf
        refine ag_iconst (1 : Int32) dL_isBegun_78 (by decide) ?_
        refine ag_goto 83 dL_isBegun_79 (by decide) ?_
        refine ag_lv [1, 2, 3, 4, 5, 6, 7, 8, 9, 10, 11, 12, 13, 14, 0] rfl ?_
        exact wkL_isBegun_83 hl hb hb0 _ _ _ _ _ _ _ _ _ _ hD ⟨show kc + (125) ≤ 125 by omega, show ks + (750) ≤ 750 by omega⟩ hf
def gL_isBegun_23 (lo t Ls : Nat) (xs : Nat → Int32) (K : Int32 → TH → MS → Prop) (h : TH) (L : MS) (a9 : Int32) (a10 : Int32) (a11 : Int32) (a12 : Int32) (a13 : Int32) (s0 : Int32) : Prop :=
  (if a9 = a10 then gL_isBegun_57 lo t Ls xs K h L a9 a10 a11 a12 a13 s0 (0 : Int32) else (if (3601 : Int32) ≤ a11 then gL_isBegun_57 lo t Ls xs K h L a9 a10 a11 a12 a13 s0 (0 : Int32) else (if (6 : Int32) ≤ a12 then gL_isBegun_57 lo t Ls xs K h L a9 a10 a11 a12 a13 s0 (0 : Int32) else (if a13 ≤ 0 then gL_isBegun_57 lo t Ls xs K h L a9 a10 a11 a12 a13 s0 (0 : Int32) else gL_isBegun_57 lo t Ls xs K h L a9 a10 a11 a12 a13 s0 (1 : Int32)))))
set_option maxHeartbeats 4000000 in
set_option maxRecDepth 100000 in
theorem wkL_isBegun_23 {l : Launch} {g : xG} {x0 : xV} {b lo t Ls : Nat} {xs : Nat → Int32} {K : Int32 → TH → MS → Prop} {kc ks : Nat} (hl : l.stackTraces = false) (hb : b + 8 < lo) (hb0 : b < x0.1 ∧ x0.2 b = none) (h : TH) (L : MS) (a9 : Int32) (a10 : Int32) (a11 : Int32) (a12 : Int32) (a13 : Int32) (s0 : Int32) (hD : LDp lo h) (hc : kc + (125) ≤ 125 ∧ ks + (750) ≤ 750) (hf : gL_isBegun_23 lo t Ls xs K h L a9 a10 a11 a12 a13 s0) : AWG (XS b Ls xs) (zR rmL_isBegun g lo x0 K) ML_isBegun rmL_isBegun l g x0 kc ks (LW g lo h L) 23 [(0, va_rf (some t)), (1, .ref (lo + 0)), (2, .ref (lo + 1)), (3, .ref (lo + 2)), (4, .ref (lo + 3)), (5, .ref (lo + 4)), (6, .ref (lo + 5)), (8, .ref (lo + 7)), (9, .int a9), (10, .int a10), (11, .int a11), (12, .int a12), (13, .int a13)] [.int s0] := by
  rw [gL_isBegun_23] at hf
  refine ag_istore [(14, .int s0), (0, va_rf (some t)), (1, .ref (lo + 0)), (2, .ref (lo + 1)), (3, .ref (lo + 2)), (4, .ref (lo + 3)), (5, .ref (lo + 4)), (6, .ref (lo + 5)), (8, .ref (lo + 7)), (9, .int a9), (10, .int a10), (11, .int a11), (12, .int a12), (13, .int a13)] dL_isBegun_23 (by decide) rfl ?_
  refine ag_iload 9 dL_isBegun_25 rfl ?_
  refine ag_iload 10 dL_isBegun_27 rfl ?_
  refine ag_icmp_eq 56 dL_isBegun_29 (by decide) (fun c1 => ?_) (fun c1 => ?_)
  · rw [if_pos c1] at hf
    refine ag_iconst (0 : Int32) dL_isBegun_56 (by decide) ?_
    refine ag_lv [1, 2, 3, 4, 5, 6, 7, 8, 9, 10, 11, 12, 13, 0] rfl ?_
    exact wkL_isBegun_57 hl hb hb0 _ _ _ _ _ _ _ _ _ hD ⟨show kc + (125) ≤ 125 by omega, show ks + (750) ≤ 750 by omega⟩ hf
  · rw [if_neg c1] at hf
    refine ag_iload 11 dL_isBegun_32 rfl ?_
    refine ag_sipush (3601 : Int32) dL_isBegun_34 (by decide) ?_
    refine ag_icmp_ge 56 dL_isBegun_37 (by decide) (fun c2 => ?_) (fun c2 => ?_)
    · rw [if_pos c2] at hf
      refine ag_iconst (0 : Int32) dL_isBegun_56 (by decide) ?_
      refine ag_lv [1, 2, 3, 4, 5, 6, 7, 8, 9, 10, 11, 12, 13, 0] rfl ?_
      exact wkL_isBegun_57 hl hb hb0 _ _ _ _ _ _ _ _ _ hD ⟨show kc + (125) ≤ 125 by omega, show ks + (750) ≤ 750 by omega⟩ hf
    · rw [if_neg c2] at hf
      refine ag_iload 12 dL_isBegun_40 rfl ?_
      refine ag_bipush (6 : Int32) dL_isBegun_42 (by decide) ?_
      refine ag_icmp_ge 56 dL_isBegun_44 (by decide) (fun c3 => ?_) (fun c3 => ?_)
      · rw [if_pos c3] at hf
        refine ag_iconst (0 : Int32) dL_isBegun_56 (by decide) ?_
        refine ag_lv [1, 2, 3, 4, 5, 6, 7, 8, 9, 10, 11, 12, 13, 0] rfl ?_
        exact wkL_isBegun_57 hl hb hb0 _ _ _ _ _ _ _ _ _ hD ⟨show kc + (125) ≤ 125 by omega, show ks + (750) ≤ 750 by omega⟩ hf
      · rw [if_neg c3] at hf
        refine ag_iload 13 dL_isBegun_47 rfl ?_
        refine ag_if_le 56 dL_isBegun_49 (by decide) (fun c4 => ?_) (fun c4 => ?_)
        · rw [if_pos c4] at hf
          refine ag_iconst (0 : Int32) dL_isBegun_56 (by decide) ?_
          refine ag_lv [1, 2, 3, 4, 5, 6, 7, 8, 9, 10, 11, 12, 13, 0] rfl ?_
          exact wkL_isBegun_57 hl hb hb0 _ _ _ _ _ _ _ _ _ hD ⟨show kc + (125) ≤ 125 by omega, show ks + (750) ≤ 750 by omega⟩ hf
        · rw [if_neg c4] at hf
          refine ag_iconst (1 : Int32) dL_isBegun_52 (by decide) ?_
          refine ag_goto 57 dL_isBegun_53 (by decide) ?_
          refine ag_lv [1, 2, 3, 4, 5, 6, 7, 8, 9, 10, 11, 12, 13, 0] rfl ?_
          exact wkL_isBegun_57 hl hb hb0 _ _ _ _ _ _ _ _ _ hD ⟨show kc + (125) ≤ 125 by omega, show ks + (750) ≤ 750 by omega⟩ hf
def gL_isBegun (lo t Ls : Nat) (xs : Nat → Int32) (K : Int32 → TH → MS → Prop) (h : TH) (L : MS) (a9 : Int32) (a10 : Int32) (a11 : Int32) (a12 : Int32) (a13 : Int32) : Prop :=
  (if (m_I L 7 (0 : Int32).toNatClampNeg) ≤ a9 then gL_isBegun_23 lo t Ls xs K h L a9 a10 a11 a12 a13 (0 : Int32) else (if (m_I L 7 (0 : Int32).toNatClampNeg) ≤ a10 then gL_isBegun_23 lo t Ls xs K h L a9 a10 a11 a12 a13 (0 : Int32) else gL_isBegun_23 lo t Ls xs K h L a9 a10 a11 a12 a13 (1 : Int32)))
set_option maxHeartbeats 4000000 in
set_option maxRecDepth 100000 in
theorem ctL_isBegun {l : Launch} {g : xG} {b lo t Ls : Nat} {xs : Nat → Int32} {K : Int32 → TH → MS → Prop} (hl : l.stackTraces = false) (hb : b + 8 < lo) (h : TH) (L : MS) (a9 : Int32) (a10 : Int32) (a11 : Int32) (a12 : Int32) (a13 : Int32) (hD : LDp lo h) (hf : gL_isBegun lo t Ls xs K h L a9 a10 a11 a12 a13) : RT yL_isBegun ML_isBegun rmL_isBegun l g lo b Ls xs [va_rf (some t), .ref (lo + 0), .ref (lo + 1), .ref (lo + 2), .ref (lo + 3), .ref (lo + 4), .ref (lo + 5), .ref (lo + 6), .ref (lo + 7), .int a9, .int a10, .int a11, .int a12, .int a13] (LW g lo h L) K := by
  rw [gL_isBegun] at hf
  refine RT.of (lv0 := [(0, va_rf (some t)), (1, .ref (lo + 0)), (2, .ref (lo + 1)), (3, .ref (lo + 2)), (4, .ref (lo + 3)), (5, .ref (lo + 4)), (6, .ref (lo + 5)), (7, .ref (lo + 6)), (8, .ref (lo + 7)), (9, .int a9), (10, .int a10), (11, .int a11), (12, .int a12), (13, .int a13)]) (by decide +kernel) rfl rfl (by simp [lg_sl, cat_q, cat_i, cat_l, cat_r]) (by simp [lv_args, cat_q, cat_i, cat_l, cat_r]) hl ?_
  have hb0 := LW_no (g := g) (L := L) hD hb
  have hc : 0 + 125 ≤ 125 ∧ 0 + 750 ≤ 750 := ⟨by omega, by omega⟩
  refine ag_iload 9 dL_isBegun_0 rfl ?_
  refine ag_aload 8 dL_isBegun_2 rfl ?_
  refine ag_iconst (0 : Int32) dL_isBegun_4 (by decide) ?_
  refine ar_iald 7 5 hD rfl (by decide) (xin_v (by decide)) dL_isBegun_5 ?_
  refine ag_icmp_ge 22 dL_isBegun_6 (by decide) (fun c1 => ?_) (fun c1 => ?_)
  · rw [if_pos c1] at hf
    refine ag_iconst (0 : Int32) dL_isBegun_22 (by decide) ?_
    refine ag_lv [0, 1, 2, 3, 4, 5, 6, 8, 9, 10, 11, 12, 13] rfl ?_
    exact wkL_isBegun_23 hl hb hb0 _ _ _ _ _ _ _ _ hD ⟨show 0 + (125) ≤ 125 by omega, show 0 + (750) ≤ 750 by omega⟩ hf
  · rw [if_neg c1] at hf
    refine ag_iload 10 dL_isBegun_9 rfl ?_
    refine ag_aload 8 dL_isBegun_11 rfl ?_
    refine ag_iconst (0 : Int32) dL_isBegun_13 (by decide) ?_
    refine ar_iald 7 5 hD rfl (by decide) (xin_v (by decide)) dL_isBegun_14 ?_
    refine ag_icmp_ge 22 dL_isBegun_15 (by decide) (fun c2 => ?_) (fun c2 => ?_)
    · rw [if_pos c2] at hf
      refine ag_iconst (0 : Int32) dL_isBegun_22 (by decide) ?_
      refine ag_lv [0, 1, 2, 3, 4, 5, 6, 8, 9, 10, 11, 12, 13] rfl ?_
      exact wkL_isBegun_23 hl hb hb0 _ _ _ _ _ _ _ _ hD ⟨show 0 + (125) ≤ 125 by omega, show 0 + (750) ≤ 750 by omega⟩ hf
    · rw [if_neg c2] at hf
      refine ag_iconst (1 : Int32) dL_isBegun_18 (by decide) ?_
      refine ag_goto 23 dL_isBegun_19 (by decide) ?_
      refine ag_lv [0, 1, 2, 3, 4, 5, 6, 8, 9, 10, 11, 12, 13] rfl ?_
      exact wkL_isBegun_23 hl hb hb0 _ _ _ _ _ _ _ _ hD ⟨show 0 + (125) ≤ 125 by omega, show 0 + (750) ≤ 750 by omega⟩ hf
abbrev ML_isSettled : xM := (RL, cL_isSettled, 8, (some .boolean), "isSettled")
abbrev rmL_isSettled : Room := { frames := 8, cells := 0, slots := 0, locals := 181 }
theorem ciL_isSettled : Cond.code yL_isSettled cL_isSettled 8 (some .boolean) ∈ wt ∧ Cond.initialized yL_isSettled.cls ∈ wt ∧ (yL_isSettled.cls ≠ "java/lang/invoke/MethodHandle" ∧ yL_isSettled.cls ≠ "java/lang/invoke/VarHandle" ∧ (parseMethodDescriptor yL_isSettled.desc).map (fun d => d.parameters.length) = some 5) := ⟨wl4 (i := 107) rfl rfl, wl1 (i := 0) rfl rfl, by decide +kernel, by decide +kernel, by decide +kernel⟩
def gL_isSettled_80 (lo t Ls : Nat) (xs : Nat → Int32) (K : Int32 → TH → MS → Prop) (k13 : TH → MS → Int32 → Int32 → Prop) (h : TH) (L : MS) (a5 : Int32) : Prop :=
  (∃ q1, fL_finds L (m_I L 7 (3 : Int32).toNatClampNeg) = some q1 ∧ (∃ q2, fL_off q1 = some q2 ∧ k13 h q2.2 (a5 + (1 : Int32)) q2.1))
set_option maxHeartbeats 4000000 in
set_option maxRecDepth 100000 in
theorem wkL_isSettled_80 {l : Launch} {g : xG} {x0 : xV} {b lo t Ls : Nat} {xs : Nat → Int32} {K : Int32 → TH → MS → Prop} {kc ks : Nat} (hl : l.stackTraces = false) (hb : b + 8 < lo) (hb0 : b < x0.1 ∧ x0.2 b = none) (k13 : TH → MS → Int32 → Int32 → Prop) (hk13 : ∀ (kc ks : Nat) (h : TH) (L : MS) (a5 : Int32) (a6 : Int32), LDp lo h → (kc + (0) ≤ 0 ∧ ks + (0) ≤ 0) → k13 h L a5 a6 → AWG (XS b Ls xs) (zR rmL_isSettled g lo x0 K) ML_isSettled rmL_isSettled l g x0 kc ks (LW g lo h L) 13 [(0, va_rf (some t)), (1, .ref (lo + 3)), (2, .ref (lo + 4)), (3, .ref (lo + 6)), (4, .ref (lo + 7)), (5, .int a5), (6, .int a6)] []) (h : TH) (L : MS) (a5 : Int32) (hD : LDp lo h) (hc : kc + (0) ≤ 0 ∧ ks + (0) ≤ 0) (hf : gL_isSettled_80 lo t Ls xs K k13 h L a5) : AWG (XS b Ls xs) (zR rmL_isSettled g lo x0 K) ML_isSettled rmL_isSettled l g x0 kc ks (LW g lo h L) 80 [(0, va_rf (some t)), (1, .ref (lo + 3)), (2, .ref (lo + 4)), (3, .ref (lo + 6)), (4, .ref (lo + 7)), (5, .int a5)] [] := by
  rw [gL_isSettled_80] at hf
  refine ag_aload_n 1 dL_isSettled_80 rfl ?_
  refine ag_aload_n 2 dL_isSettled_81 rfl ?_
  refine ag_aload_n 3 dL_isSettled_82 rfl ?_
  refine ag_aload 4 dL_isSettled_83 rfl ?_
  refine ag_aload 4 dL_isSettled_85 rfl ?_
  refine ag_iconst (3 : Int32) dL_isSettled_87 (by decide) ?_
  refine ar_iald 7 5 hD rfl (by decide) (xin_v (by decide)) dL_isSettled_88 ?_
  obtain ⟨q1, hq1, hf⟩ := hf
  refine ag_callS [.ref (lo + 3), .ref (lo + 4), .ref (lo + 6), .ref (lo + 7), .int (m_I L 7 (3 : Int32).toNatClampNeg)] 5 (ctA hD (ctL_finds hl _ _ hq1)) ⟨wl4 (i := 40) rfl rfl, ciL_finds⟩ (wl4 (i := 41) rfl rfl) dL_isSettled_89 rfl rfl (Nat.le_of_ble_eq_true rfl) ⟨Nat.le_of_ble_eq_true rfl, Nat.le_of_ble_eq_true rfl⟩ ⟨show kc + 0 + 0 ≤ 0 by omega, show ks + 0 + 0 ≤ 0 by omega⟩ (fun _ => ?_)
  refine ag_iinc [(5, .int (a5 + (1 : Int32))), (0, va_rf (some t)), (1, .ref (lo + 3)), (2, .ref (lo + 4)), (3, .ref (lo + 6)), (4, .ref (lo + 7))] 5 dL_isSettled_92 rfl rfl (by decide) rfl ?_
  refine ag_aload_n 2 dL_isSettled_95 rfl ?_
  refine ag_aload_n 3 dL_isSettled_96 rfl ?_
  refine ag_aload_n 4 dL_isSettled_97 rfl ?_
  refine ag_aload 5 dL_isSettled_98 rfl ?_
  obtain ⟨q2, hq2, hf⟩ := hf
  refine ag_callS [.ref (lo + 3), .ref (lo + 4), .ref (lo + 6), .ref (lo + 7)] 4 (ctA hD (ctL_off hl _ hq2)) ⟨wl4 (i := 102) rfl rfl, ciL_off⟩ (wl4 (i := 103) rfl rfl) dL_isSettled_100 rfl rfl (Nat.le_of_ble_eq_true rfl) ⟨Nat.le_of_ble_eq_true rfl, Nat.le_of_ble_eq_true rfl⟩ ⟨show kc + 0 + 0 + 0 ≤ 0 by omega, show ks + 0 + 0 + 0 ≤ 0 by omega⟩ (fun _ => ?_)
  refine ag_istore [(6, .int q2.1), (5, .int (a5 + (1 : Int32))), (0, va_rf (some t)), (1, .ref (lo + 3)), (2, .ref (lo + 4)), (3, .ref (lo + 6)), (4, .ref (lo + 7))] dL_isSettled_103 (by decide) rfl ?_
  refine ag_goto 13 dL_isSettled_105 (by decide) ?_
  refine ag_lv [2, 3, 4, 5, 6, 1, 0] rfl ?_
  exact hk13 _ _ _ _ _ _ hD ⟨show kc + 0 + 0 + (0) ≤ 0 by omega, show ks + 0 + 0 + (0) ≤ 0 by omega⟩ hf
def gL_isSettled_13 (lo t Ls : Nat) (xs : Nat → Int32) (K : Int32 → TH → MS → Prop) : Nat → TH → MS → Int32 → Int32 → Prop
  | 0, _, _, _, _ => False
  | n + 1, h, L, a5, a6 =>
    (if a6 = 0 then (t_kd h t = 7 ∧ ∃ v4 h5, fX8_settle h t = some (v4, h5) ∧ LDp lo h5 ∧ (if v4 = a5 then K (1 : Int32) h5 L else K (0 : Int32) h5 L)) else (∃ q8, fL_bits ((((a6 &&& (-a6))).toInt64) - (1 : Int64)) = some q8 ∧ (xin ((48 : Int32) + q8) 64 = true ∧ (∃ W10, (ms_I L 4 ((48 : Int32) + q8).toNatClampNeg ((m_I L 4 ((48 : Int32) + q8).toNatClampNeg) + (1 : Int32))) = W10 ∧ (xin ((32 : Int32) + q8) 64 = true ∧ (if (m_I W10 4 ((32 : Int32) + q8).toNatClampNeg) = 0 then (xin ((32 : Int32) + (m_I (ms_I W10 4 ((32 : Int32) + q8).toNatClampNeg (2 : Int32)) 7 (3 : Int32).toNatClampNeg)) 48 = true ∧ (∃ W14, (ms_I (ms_I W10 4 ((32 : Int32) + q8).toNatClampNeg (2 : Int32)) 6 ((32 : Int32) + (m_I (ms_I W10 4 ((32 : Int32) + q8).toNatClampNeg (2 : Int32)) 7 (3 : Int32).toNatClampNeg)).toNatClampNeg q8) = W14 ∧ (∃ W15, (ms_I W14 7 (3 : Int32).toNatClampNeg ((m_I W14 7 (3 : Int32).toNatClampNeg) + (1 : Int32))) = W15 ∧ gL_isSettled_80 lo t Ls xs K (gL_isSettled_13 lo t Ls xs K n) h W15 a5))) else gL_isSettled_80 lo t Ls xs K (gL_isSettled_13 lo t Ls xs K n) h W10 a5))))))
set_option maxHeartbeats 4000000 in
set_option maxRecDepth 100000 in
theorem wkL_isSettled_13 {l : Launch} {g : xG} {x0 : xV} {b lo t Ls : Nat} {xs : Nat → Int32} {K : Int32 → TH → MS → Prop} (hl : l.stackTraces = false) (hb : b + 8 < lo) (hb0 : b < x0.1 ∧ x0.2 b = none) : ∀ (n kc ks : Nat) (h : TH) (L : MS) (a5 : Int32) (a6 : Int32), LDp lo h → (kc + (0) ≤ 0 ∧ ks + (0) ≤ 0) → gL_isSettled_13 lo t Ls xs K n h L a5 a6 → AWG (XS b Ls xs) (zR rmL_isSettled g lo x0 K) ML_isSettled rmL_isSettled l g x0 kc ks (LW g lo h L) 13 [(0, va_rf (some t)), (1, .ref (lo + 3)), (2, .ref (lo + 4)), (3, .ref (lo + 6)), (4, .ref (lo + 7)), (5, .int a5), (6, .int a6)] [] := by
  intro n
  induction n with
  | zero => intro kc ks h L a5 a6 hD hc hf; exact absurd hf (by simp [gL_isSettled_13])
  | succ n hk13 =>
    intro kc ks h L a5 a6 hD hc hf
    rw [gL_isSettled_13] at hf
    refine ag_iload 6 dL_isSettled_13 rfl ?_
    refine ag_if_eq 108 dL_isSettled_15 (by decide) (fun c1 => ?_) (fun c1 => ?_)
    · rw [if_pos c1] at hf
      refine ag_qload_n 0 dL_isSettled_108 rfl ?_
      obtain ⟨hk_2, v4, h5, q3, hD6, hf⟩ := hf
      refine ag_callV 6 (some t) [] 0 rfl (LW_ob hk_2) rfl rfl (ctC hD (ctX8_settle hl h _  q3)) ⟨wl1 (i := 80) rfl rfl, ciX8_settle.1, ciX8_settle.2.1, ciX8_settle.2.2⟩ (wl1 (i := 81) rfl rfl) (wl1 (i := 82) rfl rfl) dL_isSettled_109 rfl rfl (Nat.le_of_ble_eq_true rfl) ⟨Nat.le_of_ble_eq_true rfl, Nat.le_of_ble_eq_true rfl⟩ ⟨show kc + 0 ≤ 0 by omega, show ks + 0 ≤ 0 by omega⟩ (fun _ => ?_)
      refine ag_iload 5 dL_isSettled_112 rfl ?_
      refine ag_icmp_ne 121 dL_isSettled_114 (by decide) (fun c7 => ?_) (fun c7 => ?_)
      · rw [if_neg c7] at hf
        refine ag_iconst (0 : Int32) dL_isSettled_121 (by decide) ?_
        exact agr_zret hD6 hf rfl dL_isSettled_122 rfl ⟨show kc + 0 + 0 ≤ 0 by omega, show ks + 0 + 0 ≤ 0 by omega⟩
      · rw [if_pos c7] at hf
        refine ag_iconst (1 : Int32) dL_isSettled_117 (by decide) ?_
        refine ag_goto 122 dL_isSettled_118 (by decide) ?_
        exact agr_zret hD6 hf rfl dL_isSettled_122 rfl ⟨show kc + 0 + 0 ≤ 0 by omega, show ks + 0 + 0 ≤ 0 by omega⟩
    · rw [if_neg c1] at hf
      refine ag_iload 6 dL_isSettled_18 rfl ?_
      refine ag_iload 6 dL_isSettled_20 rfl ?_
      refine ag_ineg dL_isSettled_22 ?_
      refine ag_iand dL_isSettled_23 ?_
      refine ag_i2l dL_isSettled_24 ?_
      refine ag_lconst (1 : Int64) dL_isSettled_25 (by decide) ?_
      refine ag_lsub dL_isSettled_26 ?_
      obtain ⟨q8, hq8, hf⟩ := hf
      refine ag_callS [.long ((((a6 &&& (-a6))).toInt64) - (1 : Int64))] 1 (ctA hD (ctL_bits (L := L) hl _ hq8)) ⟨wl4 (i := 52) rfl rfl, ciL_bits⟩ (wl4 (i := 53) rfl rfl) dL_isSettled_27 rfl rfl (Nat.le_of_ble_eq_true rfl) ⟨Nat.le_of_ble_eq_true rfl, Nat.le_of_ble_eq_true rfl⟩ ⟨show kc + 0 + 0 ≤ 0 by omega, show ks + 0 + 0 ≤ 0 by omega⟩ (fun _ => ?_)
      refine ag_istore [(7, .int q8), (0, va_rf (some t)), (1, .ref (lo + 3)), (2, .ref (lo + 4)), (3, .ref (lo + 6)), (4, .ref (lo + 7)), (5, .int a5), (6, .int a6)] dL_isSettled_30 (by decide) rfl ?_
      refine ag_aload_n 3 dL_isSettled_32 rfl ?_
      refine ag_bipush (48 : Int32) dL_isSettled_33 (by decide) ?_
      refine ag_iload 0 dL_isSettled_35 rfl ?_
      refine ag_iadd dL_isSettled_37 ?_
      refine ag_dup2 dL_isSettled_38 rfl rfl ?_
      obtain ⟨hi9, hf⟩ := hf
      refine ar_iald 4 64 hD rfl (by decide) (xin_v hi9) dL_isSettled_39 ?_
      refine ag_iconst (1 : Int32) dL_isSettled_40 (by decide) ?_
      refine ag_iadd dL_isSettled_41 ?_
      obtain ⟨W10, hW10, hf⟩ := hf
      refine ar_iast 4 64 hD rfl (by decide) (xin_v hi9) dL_isSettled_42 ?_
      rw [hW10]
      refine ag_aload_n 3 dL_isSettled_43 rfl ?_
      refine ag_bipush (32 : Int32) dL_isSettled_44 (by decide) ?_
      refine ag_iload 0 dL_isSettled_46 rfl ?_
      refine ag_iadd dL_isSettled_48 ?_
      obtain ⟨hi11, hf⟩ := hf
      refine ar_iald 4 64 hD rfl (by decide) (xin_v hi11) dL_isSettled_49 ?_
      refine ag_if_ne 80 dL_isSettled_50 (by decide) (fun c12 => ?_) (fun c12 => ?_)
      · rw [if_neg c12] at hf
        refine ag_lv [1, 2, 3, 4, 5, 6] rfl ?_
        exact wkL_isSettled_80 hl hb hb0 _ hk13 _ _ _ hD ⟨show kc + 0 + (0) ≤ 0 by omega, show ks + 0 + (0) ≤ 0 by omega⟩ hf
      · rw [if_pos c12] at hf
        refine ag_aload_n 3 dL_isSettled_53 rfl ?_
        refine ag_bipush (32 : Int32) dL_isSettled_54 (by decide) ?_
        refine ag_iload 0 dL_isSettled_56 rfl ?_
        refine ag_iadd dL_isSettled_58 ?_
        refine ag_iconst (2 : Int32) dL_isSettled_59 (by decide) ?_
        refine ar_iast 4 64 hD rfl (by decide) (xin_v hi11) dL_isSettled_60 ?_
        refine ag_aload_n 4 dL_isSettled_61 rfl ?_
        refine ag_bipush (32 : Int32) dL_isSettled_62 (by decide) ?_
        refine ag_aload 5 dL_isSettled_64 rfl ?_
        refine ag_iconst (3 : Int32) dL_isSettled_66 (by decide) ?_
        refine ar_iald 7 5 hD rfl (by decide) (xin_v (by decide)) dL_isSettled_67 ?_
        refine ag_iadd dL_isSettled_68 ?_
        refine ag_iload 0 dL_isSettled_69 rfl ?_
        obtain ⟨hi13, hf⟩ := hf
        obtain ⟨W14, hW14, hf⟩ := hf
        refine ar_iast 6 48 hD rfl (by decide) (xin_v hi13) dL_isSettled_71 ?_
        rw [hW14]
        refine ag_aload 5 dL_isSettled_72 rfl ?_
        refine ag_iconst (3 : Int32) dL_isSettled_74 (by decide) ?_
        refine ag_dup2 dL_isSettled_75 rfl rfl ?_
        refine ar_iald 7 5 hD rfl (by decide) (xin_v (by decide)) dL_isSettled_76 ?_
        refine ag_iconst (1 : Int32) dL_isSettled_77 (by decide) ?_
        refine ag_iadd dL_isSettled_78 ?_
        obtain ⟨W15, hW15, hf⟩ := hf
        refine ar_iast 7 5 hD rfl (by decide) (xin_v (by decide)) dL_isSettled_79 ?_
        rw [hW15]
        refine ag_lv [1, 2, 3, 4, 5, 6] rfl ?_
        exact wkL_isSettled_80 hl hb hb0 _ hk13 _ _ _ hD ⟨show kc + 0 + (0) ≤ 0 by omega, show ks + 0 + (0) ≤ 0 by omega⟩ hf
def gL_isSettled (lo t Ls : Nat) (xs : Nat → Int32) (K : Int32 → TH → MS → Prop) (h : TH) (L : MS) : Prop :=
  (∃ q1, fL_off L = some q1 ∧ gL_isSettled_13 lo t Ls xs K FU h q1.2 (0 : Int32) q1.1)
set_option maxHeartbeats 4000000 in
set_option maxRecDepth 100000 in
theorem ctL_isSettled {l : Launch} {g : xG} {b lo t Ls : Nat} {xs : Nat → Int32} {K : Int32 → TH → MS → Prop} (hl : l.stackTraces = false) (hb : b + 8 < lo) (h : TH) (L : MS) (hD : LDp lo h) (hf : gL_isSettled lo t Ls xs K h L) : RT yL_isSettled ML_isSettled rmL_isSettled l g lo b Ls xs [va_rf (some t), .ref (lo + 3), .ref (lo + 4), .ref (lo + 6), .ref (lo + 7)] (LW g lo h L) K := by
  rw [gL_isSettled] at hf
  refine RT.of (lv0 := [(0, va_rf (some t)), (1, .ref (lo + 3)), (2, .ref (lo + 4)), (3, .ref (lo + 6)), (4, .ref (lo + 7))]) (by decide +kernel) rfl rfl (by simp [lg_sl, cat_q, cat_i, cat_l, cat_r]) (by simp [lv_args, cat_q, cat_i, cat_l, cat_r]) hl ?_
  have hb0 := LW_no (g := g) (L := L) hD hb
  have hc : 0 + 0 ≤ 0 ∧ 0 + 0 ≤ 0 := ⟨by omega, by omega⟩
  refine ag_iconst (0 : Int32) dL_isSettled_0 (by decide) ?_
  refine ag_istore [(5, .int (0 : Int32)), (0, va_rf (some t)), (1, .ref (lo + 3)), (2, .ref (lo + 4)), (3, .ref (lo + 6)), (4, .ref (lo + 7))] dL_isSettled_1 (by decide) rfl ?_
  refine ag_aload_n 2 dL_isSettled_3 rfl ?_
  refine ag_aload_n 3 dL_isSettled_4 rfl ?_
  refine ag_aload_n 4 dL_isSettled_5 rfl ?_
  refine ag_aload 5 dL_isSettled_6 rfl ?_
  obtain ⟨q1, hq1, hf⟩ := hf
  refine ag_callS [.ref (lo + 3), .ref (lo + 4), .ref (lo + 6), .ref (lo + 7)] 4 (ctA hD (ctL_off hl _ hq1)) ⟨wl4 (i := 102) rfl rfl, ciL_off⟩ (wl4 (i := 103) rfl rfl) dL_isSettled_8 rfl rfl (Nat.le_of_ble_eq_true rfl) ⟨Nat.le_of_ble_eq_true rfl, Nat.le_of_ble_eq_true rfl⟩ ⟨show 0 + 0 + 0 ≤ 0 by omega, show 0 + 0 + 0 ≤ 0 by omega⟩ (fun _ => ?_)
  refine ag_istore [(6, .int q1.1), (5, .int (0 : Int32)), (0, va_rf (some t)), (1, .ref (lo + 3)), (2, .ref (lo + 4)), (3, .ref (lo + 6)), (4, .ref (lo + 7))] dL_isSettled_11 (by decide) rfl ?_
  refine ag_lv [2, 3, 4, 5, 6, 1, 0] rfl ?_
  exact wkL_isSettled_13 hl hb hb0 _ _ _ _ _ _ _ hD ⟨show 0 + 0 + (0) ≤ 0 by omega, show 0 + 0 + (0) ≤ 0 by omega⟩ hf
abbrev ML_isNode : xM := (RL, cL_isNode, 14, (some .boolean), "isNode")
abbrev rmL_isNode : Room := { frames := 41, cells := 125, slots := 750, locals := 2413 }
theorem ciL_isNode : Cond.code yL_isNode cL_isNode 14 (some .boolean) ∈ wt ∧ Cond.initialized yL_isNode.cls ∈ wt ∧ (yL_isNode.cls ≠ "java/lang/invoke/MethodHandle" ∧ yL_isNode.cls ≠ "java/lang/invoke/VarHandle" ∧ (parseMethodDescriptor yL_isNode.desc).map (fun d => d.parameters.length) = some 9) := ⟨wl4 (i := 110) rfl rfl, wl1 (i := 0) rfl rfl, by decide +kernel, by decide +kernel, by decide +kernel⟩
def gL_isNode_562 (lo t Ls : Nat) (xs : Nat → Int32) (K : Int32 → TH → MS → Prop) (h : TH) (L : MS) (a9 : Int32) (a10 : Int32) (a11 : Int32) (a13 : Int32) : Prop :=
  gL_does lo t Ls xs (fun v2 h3 L4 => (if v2 = a13 then K (1 : Int32) h3 L4 else K (0 : Int32) h3 L4)) h L (8 : Int32) a9 a10 a11 (0 : Int32) (0 : Int32)
set_option maxHeartbeats 4000000 in
set_option maxRecDepth 100000 in
theorem wkL_isNode_562 {l : Launch} {g : xG} {x0 : xV} {b lo t Ls : Nat} {xs : Nat → Int32} {K : Int32 → TH → MS → Prop} {kc ks : Nat} (hl : l.stackTraces = false) (hb : b + 8 < lo) (hb0 : b < x0.1 ∧ x0.2 b = none) (h : TH) (L : MS) (a9 : Int32) (a10 : Int32) (a11 : Int32) (a13 : Int32) (hD : LDp lo h) (hc : kc + (125) ≤ 125 ∧ ks + (750) ≤ 750) (hf : gL_isNode_562 lo t Ls xs K h L a9 a10 a11 a13) : AWG (XS b Ls xs) (zR rmL_isNode g lo x0 K) ML_isNode rmL_isNode l g x0 kc ks (LW g lo h L) 562 [(0, va_rf (some t)), (9, .int a9), (10, .int a10), (11, .int a11), (13, .int a13)] [] := by
  rw [gL_isNode_562] at hf
  refine ag_qload_n 0 dL_isNode_562 rfl ?_
  refine ag_bipush (8 : Int32) dL_isNode_563 (by decide) ?_
  refine ag_iload 1 dL_isNode_565 rfl ?_
  refine ag_iload 2 dL_isNode_567 rfl ?_
  refine ag_iload 3 dL_isNode_569 rfl ?_
  refine ag_iconst (0 : Int32) dL_isNode_571 (by decide) ?_
  refine ag_iconst (0 : Int32) dL_isNode_572 (by decide) ?_
  refine ag_callRH (fun s a c h => h.1) [va_rf (some t), .int (8 : Int32), .int a9, .int a10, .int a11, .int (0 : Int32), .int (0 : Int32)] 7 (ctL_does hl _ _ _ _ _ _ _ _ hD hf) ⟨wl1 (i := 129) rfl rfl, ciL_does⟩ (wl1 (i := 130) rfl rfl) dL_isNode_573 rfl rfl (Nat.le_of_ble_eq_true rfl) ⟨Nat.le_of_ble_eq_true rfl, Nat.le_of_ble_eq_true rfl⟩ ⟨show kc + 125 ≤ 125 by omega, show ks + 750 ≤ 750 by omega⟩ (fun v2 h3 L4 hf hD5 => ?_)
  refine ag_iload 4 dL_isNode_576 rfl ?_
  refine ag_icmp_ne 585 dL_isNode_578 (by decide) (fun c6 => ?_) (fun c6 => ?_)
  · rw [if_neg c6] at hf
    refine ag_iconst (0 : Int32) dL_isNode_585 (by decide) ?_
    exact agr_zret hD5 hf rfl dL_isNode_586 rfl ⟨show kc + 125 + 0 ≤ 125 by omega, show ks + 750 + 0 ≤ 750 by omega⟩
  · rw [if_pos c6] at hf
    refine ag_iconst (1 : Int32) dL_isNode_581 (by decide) ?_
    refine ag_goto 586 dL_isNode_582 (by decide) ?_
    exact agr_zret hD5 hf rfl dL_isNode_586 rfl ⟨show kc + 125 + 0 ≤ 125 by omega, show ks + 750 + 0 ≤ 750 by omega⟩
def gL_isNode_540 (lo t Ls : Nat) (xs : Nat → Int32) (K : Int32 → TH → MS → Prop) (h : TH) (L : MS) (a9 : Int32) (a10 : Int32) (a11 : Int32) (a12 : Int32) (s0 : Int32) : Prop :=
  (if s0 < 0 then gL_isNode_562 lo t Ls xs K h L a9 a10 a11 s0 else (xin a9 60 = true ∧ (∃ W3, (ms_I L 9 a9.toNatClampNeg ((m_I L 9 a9.toNatClampNeg) + ((a11 - s0) * a12))) = W3 ∧ gL_isNode_562 lo t Ls xs K h W3 a9 a10 a11 s0)))
set_option maxHeartbeats 4000000 in
set_option maxRecDepth 100000 in
theorem wkL_isNode_540 {l : Launch} {g : xG} {x0 : xV} {b lo t Ls : Nat} {xs : Nat → Int32} {K : Int32 → TH → MS → Prop} {kc ks : Nat} (hl : l.stackTraces = false) (hb : b + 8 < lo) (hb0 : b < x0.1 ∧ x0.2 b = none) (h : TH) (L : MS) (a9 : Int32) (a10 : Int32) (a11 : Int32) (a12 : Int32) (s0 : Int32) (hD : LDp lo h) (hc : kc + (125) ≤ 125 ∧ ks + (750) ≤ 750) (hf : gL_isNode_540 lo t Ls xs K h L a9 a10 a11 a12 s0) : AWG (XS b Ls xs) (zR rmL_isNode g lo x0 K) ML_isNode rmL_isNode l g x0 kc ks (LW g lo h L) 540 [(0, va_rf (some t)), (2, .ref (lo + 9)), (9, .int a9), (10, .int a10), (11, .int a11), (12, .int a12)] [.int s0] := by
  rw [gL_isNode_540] at hf
  refine ag_istore [(13, .int s0), (0, va_rf (some t)), (2, .ref (lo + 9)), (9, .int a9), (10, .int a10), (11, .int a11), (12, .int a12)] dL_isNode_540 (by decide) rfl ?_
  refine ag_iload 0 dL_isNode_542 rfl ?_
  refine ag_if_lt 562 dL_isNode_544 (by decide) (fun c1 => ?_) (fun c1 => ?_)
  · rw [if_pos c1] at hf
    refine ag_lv [1, 3, 4, 5, 0] rfl ?_
    exact wkL_isNode_562 hl hb hb0 _ _ _ _ _ _ hD ⟨show kc + (125) ≤ 125 by omega, show ks + (750) ≤ 750 by omega⟩ hf
  · rw [if_neg c1] at hf
    refine ag_aload_n 2 dL_isNode_547 rfl ?_
    refine ag_iload 3 dL_isNode_548 rfl ?_
    refine ag_dup2 dL_isNode_550 rfl rfl ?_
    obtain ⟨hi2, hf⟩ := hf
    refine ar_iald 9 60 hD rfl (by decide) (xin_v hi2) dL_isNode_551 ?_
    refine ag_iload 5 dL_isNode_552 rfl ?_
    refine ag_iload 0 dL_isNode_554 rfl ?_
    refine ag_isub dL_isNode_556 ?_
    refine ag_iload 6 dL_isNode_557 rfl ?_
    refine ag_imul dL_isNode_559 ?_
    refine ag_iadd dL_isNode_560 ?_
    obtain ⟨W3, hW3, hf⟩ := hf
    refine ar_iast 9 60 hD rfl (by decide) (xin_v hi2) dL_isNode_561 ?_
    rw [hW3]
    refine ag_lv [1, 3, 4, 5, 0] rfl ?_
    exact wkL_isNode_562 hl hb hb0 _ _ _ _ _ _ hD ⟨show kc + (125) ≤ 125 by omega, show ks + (750) ≤ 750 by omega⟩ hf
def gL_isNode_497 (lo t Ls : Nat) (xs : Nat → Int32) (K : Int32 → TH → MS → Prop) (h : TH) (L : MS) (a9 : Int32) (a10 : Int32) (a11 : Int32) (s0 : Int32) : Prop :=
  (if a9 = (m_I L 7 (4 : Int32).toNatClampNeg) then gL_isNode_540 lo t Ls xs K h L a9 a10 a11 s0 (-300 : Int32) else (if a10 = (4 : Int32) then gL_isNode_540 lo t Ls xs K h L a9 a10 a11 s0 (-300 : Int32) else (if a11 = (4 : Int32) then gL_isNode_540 lo t Ls xs K h L a9 a10 a11 s0 (-200 : Int32) else (xin a9 60 = true ∧ (¬ s0 = 0 ∧ gL_isNode_540 lo t Ls xs K h L a9 a10 a11 s0 (((m_I L 9 a9.toNatClampNeg) / s0) - ((m_I L 9 a9.toNatClampNeg) / s0) / (4 : Int32) * (4 : Int32)))))))
set_option maxHeartbeats 4000000 in
set_option maxRecDepth 100000 in
theorem wkL_isNode_497 {l : Launch} {g : xG} {x0 : xV} {b lo t Ls : Nat} {xs : Nat → Int32} {K : Int32 → TH → MS → Prop} {kc ks : Nat} (hl : l.stackTraces = false) (hb : b + 8 < lo) (hb0 : b < x0.1 ∧ x0.2 b = none) (h : TH) (L : MS) (a9 : Int32) (a10 : Int32) (a11 : Int32) (s0 : Int32) (hD : LDp lo h) (hc : kc + (125) ≤ 125 ∧ ks + (750) ≤ 750) (hf : gL_isNode_497 lo t Ls xs K h L a9 a10 a11 s0) : AWG (XS b Ls xs) (zR rmL_isNode g lo x0 K) ML_isNode rmL_isNode l g x0 kc ks (LW g lo h L) 497 [(0, va_rf (some t)), (2, .ref (lo + 9)), (3, .ref (lo + 7)), (9, .int a9), (10, .int a10), (11, .int a11)] [.int s0] := by
  rw [gL_isNode_497] at hf
  refine ag_istore [(12, .int s0), (0, va_rf (some t)), (2, .ref (lo + 9)), (3, .ref (lo + 7)), (9, .int a9), (10, .int a10), (11, .int a11)] dL_isNode_497 (by decide) rfl ?_
  refine ag_iload 4 dL_isNode_499 rfl ?_
  refine ag_aload_n 3 dL_isNode_501 rfl ?_
  refine ag_iconst (4 : Int32) dL_isNode_502 (by decide) ?_
  refine ar_iald 7 5 hD rfl (by decide) (xin_v (by decide)) dL_isNode_503 ?_
  refine ag_icmp_eq 513 dL_isNode_504 (by decide) (fun c1 => ?_) (fun c1 => ?_)
  · rw [if_pos c1] at hf
    refine ag_sipush (-300 : Int32) dL_isNode_513 (by decide) ?_
    refine ag_goto 540 dL_isNode_516 (by decide) ?_
    refine ag_lv [1, 2, 4, 5, 6, 0] rfl ?_
    exact wkL_isNode_540 hl hb hb0 _ _ _ _ _ _ _ hD ⟨show kc + (125) ≤ 125 by omega, show ks + (750) ≤ 750 by omega⟩ hf
  · rw [if_neg c1] at hf
    refine ag_iload 5 dL_isNode_507 rfl ?_
    refine ag_iconst (4 : Int32) dL_isNode_509 (by decide) ?_
    refine ag_icmp_ne 519 dL_isNode_510 (by decide) (fun c2 => ?_) (fun c2 => ?_)
    · rw [if_neg c2] at hf
      refine ag_iload 6 dL_isNode_519 rfl ?_
      refine ag_iconst (4 : Int32) dL_isNode_521 (by decide) ?_
      refine ag_icmp_ne 531 dL_isNode_522 (by decide) (fun c3 => ?_) (fun c3 => ?_)
      · rw [if_neg c3] at hf
        refine ag_aload_n 2 dL_isNode_531 rfl ?_
        refine ag_iload 4 dL_isNode_532 rfl ?_
        obtain ⟨hi4, hf⟩ := hf
        refine ar_iald 9 60 hD rfl (by decide) (xin_v hi4) dL_isNode_534 ?_
        refine ag_iload 0 dL_isNode_535 rfl ?_
        obtain ⟨hz5, hf⟩ := hf
        refine ag_idiv dL_isNode_537 hz5 ?_
        refine ag_iconst (4 : Int32) dL_isNode_538 (by decide) ?_
        refine ag_irem dL_isNode_539 (by decide) ?_
        refine ag_lv [1, 2, 4, 5, 6, 0] rfl ?_
        exact wkL_isNode_540 hl hb hb0 _ _ _ _ _ _ _ hD ⟨show kc + (125) ≤ 125 by omega, show ks + (750) ≤ 750 by omega⟩ hf
      · rw [if_pos c3] at hf
        refine ag_sipush (-200 : Int32) dL_isNode_525 (by decide) ?_
        refine ag_goto 540 dL_isNode_528 (by decide) ?_
        refine ag_lv [1, 2, 4, 5, 6, 0] rfl ?_
        exact wkL_isNode_540 hl hb hb0 _ _ _ _ _ _ _ hD ⟨show kc + (125) ≤ 125 by omega, show ks + (750) ≤ 750 by omega⟩ hf
    · rw [if_pos c2] at hf
      refine ag_sipush (-300 : Int32) dL_isNode_513 (by decide) ?_
      refine ag_goto 540 dL_isNode_516 (by decide) ?_
      refine ag_lv [1, 2, 4, 5, 6, 0] rfl ?_
      exact wkL_isNode_540 hl hb hb0 _ _ _ _ _ _ _ hD ⟨show kc + (125) ≤ 125 by omega, show ks + (750) ≤ 750 by omega⟩ hf
def gL_isNode_429 (lo t Ls : Nat) (xs : Nat → Int32) (K : Int32 → TH → MS → Prop) (h : TH) (L : MS) (a10 : Int32) (a11 : Int32) (a12 : Int32) (s0 : Int32) (s1 : Int32) : Prop :=
  (if s0 = s1 then (if 0 ≤ a12 then K (1 : Int32) h L else (if a11 = 0 then K (1 : Int32) h L else (if a10 < 0 then K (0 : Int32) h L else K (1 : Int32) h L))) else K (0 : Int32) h L)
set_option maxHeartbeats 4000000 in
set_option maxRecDepth 100000 in
theorem wkL_isNode_429 {l : Launch} {g : xG} {x0 : xV} {b lo t Ls : Nat} {xs : Nat → Int32} {K : Int32 → TH → MS → Prop} {kc ks : Nat} (hl : l.stackTraces = false) (hb : b + 8 < lo) (hb0 : b < x0.1 ∧ x0.2 b = none) (h : TH) (L : MS) (a10 : Int32) (a11 : Int32) (a12 : Int32) (s0 : Int32) (s1 : Int32) (hD : LDp lo h) (hc : kc + (0) ≤ 125 ∧ ks + (0) ≤ 750) (hf : gL_isNode_429 lo t Ls xs K h L a10 a11 a12 s0 s1) : AWG (XS b Ls xs) (zR rmL_isNode g lo x0 K) ML_isNode rmL_isNode l g x0 kc ks (LW g lo h L) 429 [(10, .int a10), (11, .int a11), (12, .int a12)] [.int s1, .int s0] := by
  rw [gL_isNode_429] at hf
  refine ag_icmp_ne 451 dL_isNode_429 (by decide) (fun c1 => ?_) (fun c1 => ?_)
  · rw [if_neg c1] at hf
    refine ag_iconst (0 : Int32) dL_isNode_451 (by decide) ?_
    exact agr_zret hD hf rfl dL_isNode_452 rfl ⟨show kc + 0 ≤ 125 by omega, show ks + 0 ≤ 750 by omega⟩
  · rw [if_pos c1] at hf
    refine ag_iload 2 dL_isNode_432 rfl ?_
    refine ag_if_ge 447 dL_isNode_434 (by decide) (fun c2 => ?_) (fun c2 => ?_)
    · rw [if_pos c2] at hf
      refine ag_iconst (1 : Int32) dL_isNode_447 (by decide) ?_
      refine ag_goto 452 dL_isNode_448 (by decide) ?_
      exact agr_zret hD hf rfl dL_isNode_452 rfl ⟨show kc + 0 ≤ 125 by omega, show ks + 0 ≤ 750 by omega⟩
    · rw [if_neg c2] at hf
      refine ag_iload 1 dL_isNode_437 rfl ?_
      refine ag_if_eq 447 dL_isNode_439 (by decide) (fun c3 => ?_) (fun c3 => ?_)
      · rw [if_pos c3] at hf
        refine ag_iconst (1 : Int32) dL_isNode_447 (by decide) ?_
        refine ag_goto 452 dL_isNode_448 (by decide) ?_
        exact agr_zret hD hf rfl dL_isNode_452 rfl ⟨show kc + 0 ≤ 125 by omega, show ks + 0 ≤ 750 by omega⟩
      · rw [if_neg c3] at hf
        refine ag_iload 0 dL_isNode_442 rfl ?_
        refine ag_if_lt 451 dL_isNode_444 (by decide) (fun c4 => ?_) (fun c4 => ?_)
        · rw [if_pos c4] at hf
          refine ag_iconst (0 : Int32) dL_isNode_451 (by decide) ?_
          exact agr_zret hD hf rfl dL_isNode_452 rfl ⟨show kc + 0 ≤ 125 by omega, show ks + 0 ≤ 750 by omega⟩
        · rw [if_neg c4] at hf
          refine ag_iconst (1 : Int32) dL_isNode_447 (by decide) ?_
          refine ag_goto 452 dL_isNode_448 (by decide) ?_
          exact agr_zret hD hf rfl dL_isNode_452 rfl ⟨show kc + 0 ≤ 125 by omega, show ks + 0 ≤ 750 by omega⟩
def gL_isNode_404 (lo t Ls : Nat) (xs : Nat → Int32) (K : Int32 → TH → MS → Prop) (h : TH) (L : MS) (a10 : Int32) (a11 : Int32) (a12 : Int32) (a13 : Int32) : Prop :=
  (if a11 = 0 then gL_isNode_429 lo t Ls xs K h L a10 a11 a12 a13 (-300 : Int32) else (if a12 < 0 then gL_isNode_429 lo t Ls xs K h L a10 a11 a12 a13 (-100 : Int32) else gL_isNode_429 lo t Ls xs K h L a10 a11 a12 a13 a12))
set_option maxHeartbeats 4000000 in
set_option maxRecDepth 100000 in
theorem wkL_isNode_404 {l : Launch} {g : xG} {x0 : xV} {b lo t Ls : Nat} {xs : Nat → Int32} {K : Int32 → TH → MS → Prop} {kc ks : Nat} (hl : l.stackTraces = false) (hb : b + 8 < lo) (hb0 : b < x0.1 ∧ x0.2 b = none) (h : TH) (L : MS) (a10 : Int32) (a11 : Int32) (a12 : Int32) (a13 : Int32) (hD : LDp lo h) (hc : kc + (0) ≤ 125 ∧ ks + (0) ≤ 750) (hf : gL_isNode_404 lo t Ls xs K h L a10 a11 a12 a13) : AWG (XS b Ls xs) (zR rmL_isNode g lo x0 K) ML_isNode rmL_isNode l g x0 kc ks (LW g lo h L) 404 [(10, .int a10), (11, .int a11), (12, .int a12), (13, .int a13)] [] := by
  rw [gL_isNode_404] at hf
  refine ag_iload 3 dL_isNode_404 rfl ?_
  refine ag_iload 1 dL_isNode_406 rfl ?_
  refine ag_if_ne 417 dL_isNode_408 (by decide) (fun c1 => ?_) (fun c1 => ?_)
  · rw [if_neg c1] at hf
    refine ag_iload 2 dL_isNode_417 rfl ?_
    refine ag_if_lt 427 dL_isNode_419 (by decide) (fun c2 => ?_) (fun c2 => ?_)
    · rw [if_pos c2] at hf
      refine ag_bipush (-100 : Int32) dL_isNode_427 (by decide) ?_
      refine ag_lv [0, 1, 2] rfl ?_
      exact wkL_isNode_429 hl hb hb0 _ _ _ _ _ _ _ hD ⟨show kc + (0) ≤ 125 by omega, show ks + (0) ≤ 750 by omega⟩ hf
    · rw [if_neg c2] at hf
      refine ag_iload 2 dL_isNode_422 rfl ?_
      refine ag_goto 429 dL_isNode_424 (by decide) ?_
      refine ag_lv [0, 1, 2] rfl ?_
      exact wkL_isNode_429 hl hb hb0 _ _ _ _ _ _ _ hD ⟨show kc + (0) ≤ 125 by omega, show ks + (0) ≤ 750 by omega⟩ hf
  · rw [if_pos c1] at hf
    refine ag_sipush (-300 : Int32) dL_isNode_411 (by decide) ?_
    refine ag_goto 429 dL_isNode_414 (by decide) ?_
    refine ag_lv [0, 1, 2] rfl ?_
    exact wkL_isNode_429 hl hb hb0 _ _ _ _ _ _ _ hD ⟨show kc + (0) ≤ 125 by omega, show ks + (0) ≤ 750 by omega⟩ hf
def gL_isNode_333 (lo t Ls : Nat) (xs : Nat → Int32) (K : Int32 → TH → MS → Prop) (k290 : TH → MS → Int32 → Int32 → Int32 → Int32 → Int32 → Prop) (h : TH) (L : MS) (a9 : Int32) (a10 : Int32) (a11 : Int32) (a13 : Int32) (s0 : Int32) : Prop :=
  k290 h L a9 a10 a11 s0 (a13 + (1 : Int32))
set_option maxHeartbeats 4000000 in
set_option maxRecDepth 100000 in
theorem wkL_isNode_333 {l : Launch} {g : xG} {x0 : xV} {b lo t Ls : Nat} {xs : Nat → Int32} {K : Int32 → TH → MS → Prop} {kc ks : Nat} (hl : l.stackTraces = false) (hb : b + 8 < lo) (hb0 : b < x0.1 ∧ x0.2 b = none) (k290 : TH → MS → Int32 → Int32 → Int32 → Int32 → Int32 → Prop) (hk290 : ∀ (kc ks : Nat) (h : TH) (L : MS) (a9 : Int32) (a10 : Int32) (a11 : Int32) (a12 : Int32) (a13 : Int32), LDp lo h → (kc + (125) ≤ 125 ∧ ks + (750) ≤ 750) → k290 h L a9 a10 a11 a12 a13 → AWG (XS b Ls xs) (zR rmL_isNode g lo x0 K) ML_isNode rmL_isNode l g x0 kc ks (LW g lo h L) 290 [(0, va_rf (some t)), (1, .ref (lo + 8)), (2, .ref (lo + 9)), (3, .ref (lo + 7)), (9, .int a9), (10, .int a10), (11, .int a11), (12, .int a12), (13, .int a13)] []) (h : TH) (L : MS) (a9 : Int32) (a10 : Int32) (a11 : Int32) (a13 : Int32) (s0 : Int32) (hD : LDp lo h) (hc : kc + (125) ≤ 125 ∧ ks + (750) ≤ 750) (hf : gL_isNode_333 lo t Ls xs K k290 h L a9 a10 a11 a13 s0) : AWG (XS b Ls xs) (zR rmL_isNode g lo x0 K) ML_isNode rmL_isNode l g x0 kc ks (LW g lo h L) 333 [(0, va_rf (some t)), (1, .ref (lo + 8)), (2, .ref (lo + 9)), (3, .ref (lo + 7)), (9, .int a9), (10, .int a10), (11, .int a11), (13, .int a13)] [.int s0] := by
  rw [gL_isNode_333] at hf
  refine ag_istore [(12, .int s0), (0, va_rf (some t)), (1, .ref (lo + 8)), (2, .ref (lo + 9)), (3, .ref (lo + 7)), (9, .int a9), (10, .int a10), (11, .int a11), (13, .int a13)] dL_isNode_333 (by decide) rfl ?_
  refine ag_iinc [(13, .int (a13 + (1 : Int32))), (12, .int s0), (0, va_rf (some t)), (1, .ref (lo + 8)), (2, .ref (lo + 9)), (3, .ref (lo + 7)), (9, .int a9), (10, .int a10), (11, .int a11)] 8 dL_isNode_335 rfl rfl (by decide) rfl ?_
  refine ag_goto 290 dL_isNode_338 (by decide) ?_
  refine ag_lv [2, 3, 4, 5, 6, 7, 8, 1, 0] rfl ?_
  exact hk290 _ _ _ _ _ _ _ _ _ hD ⟨show kc + (125) ≤ 125 by omega, show ks + (750) ≤ 750 by omega⟩ hf
def gL_isNode_290 (lo t Ls : Nat) (xs : Nat → Int32) (K : Int32 → TH → MS → Prop) : Nat → TH → MS → Int32 → Int32 → Int32 → Int32 → Int32 → Prop
  | 0, _, _, _, _, _, _, _ => False
  | n + 1, h, L, a9, a10, a11, a12, a13 =>
    (if (m_I L 7 (4 : Int32).toNatClampNeg) ≤ a13 then gL_does lo t Ls xs (fun v3 h4 L5 => (if a11 = 0 then gL_isNode_404 lo t Ls xs K h4 L5 a10 a11 a12 v3 else (if 0 ≤ a12 then gL_isNode_404 lo t Ls xs K h4 L5 a10 a11 a12 v3 else (if v3 = (m_I L5 7 (4 : Int32).toNatClampNeg) then (xin v3 60 = true ∧ (∃ W11, (ms_I L5 8 v3.toNatClampNeg ((a9 + (1 : Int32)) + ((64 : Int32) * (a10 + (2 : Int32))))) = W11 ∧ (∃ W12, (ms_I (ms_I W11 9 v3.toNatClampNeg (0 : Int32)) 7 (4 : Int32).toNatClampNeg ((m_I (ms_I W11 9 v3.toNatClampNeg (0 : Int32)) 7 (4 : Int32).toNatClampNeg) + (1 : Int32))) = W12 ∧ K (1 : Int32) h4 W12))) else gL_isNode_404 lo t Ls xs K h4 L5 a10 a11 a12 v3)))) h L (7 : Int32) a9 a10 (0 : Int32) (0 : Int32) (0 : Int32) else (xin a13 60 = true ∧ (if ((m_I L 8 a13.toNatClampNeg) - (m_I L 8 a13.toNatClampNeg) / (64 : Int32) * (64 : Int32)) = (a9 + (1 : Int32)) then (if ((m_I L 8 a13.toNatClampNeg) / (64 : Int32)) = (a10 + (2 : Int32)) then gL_isNode_333 lo t Ls xs K (gL_isNode_290 lo t Ls xs K n) h L a9 a10 a11 a13 a13 else gL_isNode_333 lo t Ls xs K (gL_isNode_290 lo t Ls xs K n) h L a9 a10 a11 a13 a12) else gL_isNode_333 lo t Ls xs K (gL_isNode_290 lo t Ls xs K n) h L a9 a10 a11 a13 a12)))
set_option maxHeartbeats 4000000 in
set_option maxRecDepth 100000 in
theorem wkL_isNode_290 {l : Launch} {g : xG} {x0 : xV} {b lo t Ls : Nat} {xs : Nat → Int32} {K : Int32 → TH → MS → Prop} (hl : l.stackTraces = false) (hb : b + 8 < lo) (hb0 : b < x0.1 ∧ x0.2 b = none) : ∀ (n kc ks : Nat) (h : TH) (L : MS) (a9 : Int32) (a10 : Int32) (a11 : Int32) (a12 : Int32) (a13 : Int32), LDp lo h → (kc + (125) ≤ 125 ∧ ks + (750) ≤ 750) → gL_isNode_290 lo t Ls xs K n h L a9 a10 a11 a12 a13 → AWG (XS b Ls xs) (zR rmL_isNode g lo x0 K) ML_isNode rmL_isNode l g x0 kc ks (LW g lo h L) 290 [(0, va_rf (some t)), (1, .ref (lo + 8)), (2, .ref (lo + 9)), (3, .ref (lo + 7)), (9, .int a9), (10, .int a10), (11, .int a11), (12, .int a12), (13, .int a13)] [] := by
  intro n
  induction n with
  | zero => intro kc ks h L a9 a10 a11 a12 a13 hD hc hf; exact absurd hf (by simp [gL_isNode_290])
  | succ n hk290 =>
    intro kc ks h L a9 a10 a11 a12 a13 hD hc hf
    rw [gL_isNode_290] at hf
    refine ag_iload 8 dL_isNode_290 rfl ?_
    refine ag_aload_n 3 dL_isNode_292 rfl ?_
    refine ag_iconst (4 : Int32) dL_isNode_293 (by decide) ?_
    refine ar_iald 7 5 hD rfl (by decide) (xin_v (by decide)) dL_isNode_294 ?_
    refine ag_icmp_ge 341 dL_isNode_295 (by decide) (fun c1 => ?_) (fun c1 => ?_)
    · rw [if_pos c1] at hf
      refine ag_qload_n 0 dL_isNode_341 rfl ?_
      refine ag_bipush (7 : Int32) dL_isNode_342 (by decide) ?_
      refine ag_iload 4 dL_isNode_344 rfl ?_
      refine ag_iload 5 dL_isNode_346 rfl ?_
      refine ag_iconst (0 : Int32) dL_isNode_348 (by decide) ?_
      refine ag_iconst (0 : Int32) dL_isNode_349 (by decide) ?_
      refine ag_iconst (0 : Int32) dL_isNode_350 (by decide) ?_
      refine ag_callRH (fun s a c h => h.1) [va_rf (some t), .int (7 : Int32), .int a9, .int a10, .int (0 : Int32), .int (0 : Int32), .int (0 : Int32)] 7 (ctL_does hl _ _ _ _ _ _ _ _ hD hf) ⟨wl1 (i := 129) rfl rfl, ciL_does⟩ (wl1 (i := 130) rfl rfl) dL_isNode_351 rfl rfl (Nat.le_of_ble_eq_true rfl) ⟨Nat.le_of_ble_eq_true rfl, Nat.le_of_ble_eq_true rfl⟩ ⟨show kc + 125 ≤ 125 by omega, show ks + 750 ≤ 750 by omega⟩ (fun v3 h4 L5 hf hD6 => ?_)
      refine ag_istore [(13, .int v3), (0, va_rf (some t)), (1, .ref (lo + 8)), (2, .ref (lo + 9)), (3, .ref (lo + 7)), (9, .int a9), (10, .int a10), (11, .int a11), (12, .int a12)] dL_isNode_354 (by decide) rfl ?_
      refine ag_iload 7 dL_isNode_356 rfl ?_
      refine ag_if_eq 404 dL_isNode_358 (by decide) (fun c7 => ?_) (fun c7 => ?_)
      · rw [if_pos c7] at hf
        refine ag_lv [6, 7, 8, 0] rfl ?_
        exact wkL_isNode_404 hl hb hb0 _ _ _ _ _ _ hD6 ⟨show kc + 125 + (0) ≤ 125 by omega, show ks + 750 + (0) ≤ 750 by omega⟩ hf
      · rw [if_neg c7] at hf
        refine ag_iload 8 dL_isNode_361 rfl ?_
        refine ag_if_ge 404 dL_isNode_363 (by decide) (fun c8 => ?_) (fun c8 => ?_)
        · rw [if_pos c8] at hf
          refine ag_lv [6, 7, 8, 0] rfl ?_
          exact wkL_isNode_404 hl hb hb0 _ _ _ _ _ _ hD6 ⟨show kc + 125 + (0) ≤ 125 by omega, show ks + 750 + (0) ≤ 750 by omega⟩ hf
        · rw [if_neg c8] at hf
          refine ag_iload 0 dL_isNode_366 rfl ?_
          refine ag_aload_n 4 dL_isNode_368 rfl ?_
          refine ag_iconst (4 : Int32) dL_isNode_369 (by decide) ?_
          refine ar_iald 7 5 hD6 rfl (by decide) (xin_v (by decide)) dL_isNode_370 ?_
          refine ag_icmp_ne 404 dL_isNode_371 (by decide) (fun c9 => ?_) (fun c9 => ?_)
          · rw [if_neg c9] at hf
            refine ag_lv [6, 7, 8, 0] rfl ?_
            exact wkL_isNode_404 hl hb hb0 _ _ _ _ _ _ hD6 ⟨show kc + 125 + (0) ≤ 125 by omega, show ks + 750 + (0) ≤ 750 by omega⟩ hf
          · rw [if_pos c9] at hf
            refine ag_aload_n 2 dL_isNode_374 rfl ?_
            refine ag_iload 0 dL_isNode_375 rfl ?_
            refine ag_iload 5 dL_isNode_377 rfl ?_
            refine ag_iconst (1 : Int32) dL_isNode_379 (by decide) ?_
            refine ag_iadd dL_isNode_380 ?_
            refine ag_bipush (64 : Int32) dL_isNode_381 (by decide) ?_
            refine ag_iload 6 dL_isNode_383 rfl ?_
            refine ag_iconst (2 : Int32) dL_isNode_385 (by decide) ?_
            refine ag_iadd dL_isNode_386 ?_
            refine ag_imul dL_isNode_387 ?_
            refine ag_iadd dL_isNode_388 ?_
            obtain ⟨hi10, hf⟩ := hf
            obtain ⟨W11, hW11, hf⟩ := hf
            refine ar_iast 8 60 hD6 rfl (by decide) (xin_v hi10) dL_isNode_389 ?_
            rw [hW11]
            refine ag_aload_n 3 dL_isNode_390 rfl ?_
            refine ag_iload 0 dL_isNode_391 rfl ?_
            refine ag_iconst (0 : Int32) dL_isNode_393 (by decide) ?_
            refine ar_iast 9 60 hD6 rfl (by decide) (xin_v hi10) dL_isNode_394 ?_
            refine ag_aload_n 4 dL_isNode_395 rfl ?_
            refine ag_iconst (4 : Int32) dL_isNode_396 (by decide) ?_
            refine ag_dup2 dL_isNode_397 rfl rfl ?_
            refine ar_iald 7 5 hD6 rfl (by decide) (xin_v (by decide)) dL_isNode_398 ?_
            refine ag_iconst (1 : Int32) dL_isNode_399 (by decide) ?_
            refine ag_iadd dL_isNode_400 ?_
            obtain ⟨W12, hW12, hf⟩ := hf
            refine ar_iast 7 5 hD6 rfl (by decide) (xin_v (by decide)) dL_isNode_401 ?_
            rw [hW12]
            refine ag_iconst (1 : Int32) dL_isNode_402 (by decide) ?_
            exact agr_zret hD6 hf rfl dL_isNode_403 rfl ⟨show kc + 125 + 0 ≤ 125 by omega, show ks + 750 + 0 ≤ 750 by omega⟩
    · rw [if_neg c1] at hf
      refine ag_aload_n 1 dL_isNode_298 rfl ?_
      refine ag_iload 8 dL_isNode_299 rfl ?_
      obtain ⟨hi13, hf⟩ := hf
      refine ar_iald 8 60 hD rfl (by decide) (xin_v hi13) dL_isNode_301 ?_
      refine ag_bipush (64 : Int32) dL_isNode_302 (by decide) ?_
      refine ag_irem dL_isNode_304 (by decide) ?_
      refine ag_iload 4 dL_isNode_305 rfl ?_
      refine ag_iconst (1 : Int32) dL_isNode_307 (by decide) ?_
      refine ag_iadd dL_isNode_308 ?_
      refine ag_icmp_ne 331 dL_isNode_309 (by decide) (fun c14 => ?_) (fun c14 => ?_)
      · rw [if_neg c14] at hf
        refine ag_iload 7 dL_isNode_331 rfl ?_
        refine ag_lv [0, 1, 2, 3, 4, 5, 6, 8] rfl ?_
        exact wkL_isNode_333 hl hb hb0 _ hk290 _ _ _ _ _ _ _ hD ⟨show kc + (125) ≤ 125 by omega, show ks + (750) ≤ 750 by omega⟩ hf
      · rw [if_pos c14] at hf
        refine ag_aload_n 1 dL_isNode_312 rfl ?_
        refine ag_iload 8 dL_isNode_313 rfl ?_
        refine ar_iald 8 60 hD rfl (by decide) (xin_v hi13) dL_isNode_315 ?_
        refine ag_bipush (64 : Int32) dL_isNode_316 (by decide) ?_
        refine ag_idiv dL_isNode_318 (by decide) ?_
        refine ag_iload 5 dL_isNode_319 rfl ?_
        refine ag_iconst (2 : Int32) dL_isNode_321 (by decide) ?_
        refine ag_iadd dL_isNode_322 ?_
        refine ag_icmp_ne 331 dL_isNode_323 (by decide) (fun c15 => ?_) (fun c15 => ?_)
        · rw [if_neg c15] at hf
          refine ag_iload 7 dL_isNode_331 rfl ?_
          refine ag_lv [0, 1, 2, 3, 4, 5, 6, 8] rfl ?_
          exact wkL_isNode_333 hl hb hb0 _ hk290 _ _ _ _ _ _ _ hD ⟨show kc + (125) ≤ 125 by omega, show ks + (750) ≤ 750 by omega⟩ hf
        · rw [if_pos c15] at hf
          refine ag_iload 8 dL_isNode_326 rfl ?_
          refine ag_goto 333 dL_isNode_328 (by decide) ?_
          refine ag_lv [0, 1, 2, 3, 4, 5, 6, 8] rfl ?_
          exact wkL_isNode_333 hl hb hb0 _ hk290 _ _ _ _ _ _ _ hD ⟨show kc + (125) ≤ 125 by omega, show ks + (750) ≤ 750 by omega⟩ hf
def gL_isNode_284 (lo t Ls : Nat) (xs : Nat → Int32) (K : Int32 → TH → MS → Prop) (h : TH) (L : MS) (a9 : Int32) (a10 : Int32) (a11 : Int32) : Prop :=
  gL_isNode_290 lo t Ls xs K FU h L a9 a10 a11 (-1 : Int32) (0 : Int32)
set_option maxHeartbeats 4000000 in
set_option maxRecDepth 100000 in
theorem wkL_isNode_284 {l : Launch} {g : xG} {x0 : xV} {b lo t Ls : Nat} {xs : Nat → Int32} {K : Int32 → TH → MS → Prop} {kc ks : Nat} (hl : l.stackTraces = false) (hb : b + 8 < lo) (hb0 : b < x0.1 ∧ x0.2 b = none) (h : TH) (L : MS) (a9 : Int32) (a10 : Int32) (a11 : Int32) (hD : LDp lo h) (hc : kc + (125) ≤ 125 ∧ ks + (750) ≤ 750) (hf : gL_isNode_284 lo t Ls xs K h L a9 a10 a11) : AWG (XS b Ls xs) (zR rmL_isNode g lo x0 K) ML_isNode rmL_isNode l g x0 kc ks (LW g lo h L) 284 [(0, va_rf (some t)), (1, .ref (lo + 8)), (2, .ref (lo + 9)), (3, .ref (lo + 7)), (9, .int a9), (10, .int a10), (11, .int a11)] [] := by
  rw [gL_isNode_284] at hf
  refine ag_iconst (-1 : Int32) dL_isNode_284 (by decide) ?_
  refine ag_istore [(12, .int (-1 : Int32)), (0, va_rf (some t)), (1, .ref (lo + 8)), (2, .ref (lo + 9)), (3, .ref (lo + 7)), (9, .int a9), (10, .int a10), (11, .int a11)] dL_isNode_285 (by decide) rfl ?_
  refine ag_iconst (0 : Int32) dL_isNode_287 (by decide) ?_
  refine ag_istore [(13, .int (0 : Int32)), (12, .int (-1 : Int32)), (0, va_rf (some t)), (1, .ref (lo + 8)), (2, .ref (lo + 9)), (3, .ref (lo + 7)), (9, .int a9), (10, .int a10), (11, .int a11)] dL_isNode_288 (by decide) rfl ?_
  refine ag_lv [2, 3, 4, 5, 6, 7, 8, 1, 0] rfl ?_
  exact wkL_isNode_290 hl hb hb0 _ _ _ _ _ _ _ _ _ _ hD ⟨show kc + (125) ≤ 125 by omega, show ks + (750) ≤ 750 by omega⟩ hf
def gL_isNode_254 (lo t Ls : Nat) (xs : Nat → Int32) (K : Int32 → TH → MS → Prop) (h : TH) (L : MS) (a9 : Int32) (a10 : Int32) (s0 : Int32) : Prop :=
  (if (m_I L 7 (4 : Int32).toNatClampNeg) ≤ (50 : Int32) then gL_isNode_284 lo t Ls xs K h L a9 a10 s0 else (if s0 = 0 then gL_isNode_284 lo t Ls xs K h L a9 a10 s0 else (t_kd h t = 7 ∧ ∃ v5 h6, fX8_node h t a9 = some (.inl (v5, h6)) ∧ LDp lo h6 ∧ (if v5 < 0 then K (0 : Int32) h6 L else K (1 : Int32) h6 L))))
set_option maxHeartbeats 4000000 in
set_option maxRecDepth 100000 in
theorem wkL_isNode_254 {l : Launch} {g : xG} {x0 : xV} {b lo t Ls : Nat} {xs : Nat → Int32} {K : Int32 → TH → MS → Prop} {kc ks : Nat} (hl : l.stackTraces = false) (hb : b + 8 < lo) (hb0 : b < x0.1 ∧ x0.2 b = none) (h : TH) (L : MS) (a9 : Int32) (a10 : Int32) (s0 : Int32) (hD : LDp lo h) (hc : kc + (125) ≤ 125 ∧ ks + (750) ≤ 750) (hf : gL_isNode_254 lo t Ls xs K h L a9 a10 s0) : AWG (XS b Ls xs) (zR rmL_isNode g lo x0 K) ML_isNode rmL_isNode l g x0 kc ks (LW g lo h L) 254 [(0, va_rf (some t)), (1, .ref (lo + 8)), (2, .ref (lo + 9)), (3, .ref (lo + 7)), (9, .int a9), (10, .int a10)] [.int s0] := by
  rw [gL_isNode_254] at hf
  refine ag_istore [(11, .int s0), (0, va_rf (some t)), (1, .ref (lo + 8)), (2, .ref (lo + 9)), (3, .ref (lo + 7)), (9, .int a9), (10, .int a10)] dL_isNode_254 (by decide) rfl ?_
  refine ag_aload_n 4 dL_isNode_256 rfl ?_
  refine ag_iconst (4 : Int32) dL_isNode_257 (by decide) ?_
  refine ar_iald 7 5 hD rfl (by decide) (xin_v (by decide)) dL_isNode_258 ?_
  refine ag_bipush (50 : Int32) dL_isNode_259 (by decide) ?_
  refine ag_icmp_le 284 dL_isNode_261 (by decide) (fun c1 => ?_) (fun c1 => ?_)
  · rw [if_pos c1] at hf
    refine ag_lv [1, 2, 3, 4, 5, 6, 0] rfl ?_
    exact wkL_isNode_284 hl hb hb0 _ _ _ _ _ hD ⟨show kc + (125) ≤ 125 by omega, show ks + (750) ≤ 750 by omega⟩ hf
  · rw [if_neg c1] at hf
    refine ag_iload 0 dL_isNode_264 rfl ?_
    refine ag_if_eq 284 dL_isNode_266 (by decide) (fun c2 => ?_) (fun c2 => ?_)
    · rw [if_pos c2] at hf
      refine ag_lv [1, 2, 3, 4, 5, 6, 0] rfl ?_
      exact wkL_isNode_284 hl hb hb0 _ _ _ _ _ hD ⟨show kc + (125) ≤ 125 by omega, show ks + (750) ≤ 750 by omega⟩ hf
    · rw [if_neg c2] at hf
      refine ag_qload_n 1 dL_isNode_269 rfl ?_
      refine ag_iload 5 dL_isNode_270 rfl ?_
      obtain ⟨hk_3, v5, h6, q4, hD7, hf⟩ := hf
      refine ag_callV 6 (some t) [.int a9] 1 rfl (LW_ob hk_3) rfl rfl (ctC hD (ctX8_node hl h _ _ q4)) ⟨wl4 (i := 22) rfl rfl, ciX8_node.1, ciX8_node.2.1, ciX8_node.2.2⟩ (wl4 (i := 23) rfl rfl) (wl4 (i := 24) rfl rfl) dL_isNode_272 rfl rfl (Nat.le_of_ble_eq_true rfl) ⟨Nat.le_of_ble_eq_true rfl, Nat.le_of_ble_eq_true rfl⟩ ⟨show kc + 1 ≤ 125 by omega, show ks + 6 ≤ 750 by omega⟩ (fun _ => ?_)
      refine ag_if_lt 282 dL_isNode_275 (by decide) (fun c8 => ?_) (fun c8 => ?_)
      · rw [if_pos c8] at hf
        refine ag_iconst (0 : Int32) dL_isNode_282 (by decide) ?_
        exact agr_zret hD7 hf rfl dL_isNode_283 rfl ⟨show kc + 1 + 0 ≤ 125 by omega, show ks + 6 + 0 ≤ 750 by omega⟩
      · rw [if_neg c8] at hf
        refine ag_iconst (1 : Int32) dL_isNode_278 (by decide) ?_
        refine ag_goto 283 dL_isNode_279 (by decide) ?_
        exact agr_zret hD7 hf rfl dL_isNode_283 rfl ⟨show kc + 1 + 0 ≤ 125 by omega, show ks + 6 + 0 ≤ 750 by omega⟩
def gL_isNode_232 (lo t Ls : Nat) (xs : Nat → Int32) (K : Int32 → TH → MS → Prop) (h : TH) (L : MS) (a9 : Int32) (s0 : Int32) : Prop :=
  (if (m_I L 7 (4 : Int32).toNatClampNeg) ≤ a9 then gL_isNode_254 lo t Ls xs K h L a9 s0 (0 : Int32) else (if (49 : Int32) ≤ s0 then gL_isNode_254 lo t Ls xs K h L a9 s0 (0 : Int32) else gL_isNode_254 lo t Ls xs K h L a9 s0 (1 : Int32)))
set_option maxHeartbeats 4000000 in
set_option maxRecDepth 100000 in
theorem wkL_isNode_232 {l : Launch} {g : xG} {x0 : xV} {b lo t Ls : Nat} {xs : Nat → Int32} {K : Int32 → TH → MS → Prop} {kc ks : Nat} (hl : l.stackTraces = false) (hb : b + 8 < lo) (hb0 : b < x0.1 ∧ x0.2 b = none) (h : TH) (L : MS) (a9 : Int32) (s0 : Int32) (hD : LDp lo h) (hc : kc + (125) ≤ 125 ∧ ks + (750) ≤ 750) (hf : gL_isNode_232 lo t Ls xs K h L a9 s0) : AWG (XS b Ls xs) (zR rmL_isNode g lo x0 K) ML_isNode rmL_isNode l g x0 kc ks (LW g lo h L) 232 [(0, va_rf (some t)), (1, .ref (lo + 8)), (2, .ref (lo + 9)), (3, .ref (lo + 7)), (9, .int a9)] [.int s0] := by
  rw [gL_isNode_232] at hf
  refine ag_istore [(10, .int s0), (0, va_rf (some t)), (1, .ref (lo + 8)), (2, .ref (lo + 9)), (3, .ref (lo + 7)), (9, .int a9)] dL_isNode_232 (by decide) rfl ?_
  refine ag_iload 5 dL_isNode_234 rfl ?_
  refine ag_aload_n 4 dL_isNode_236 rfl ?_
  refine ag_iconst (4 : Int32) dL_isNode_237 (by decide) ?_
  refine ar_iald 7 5 hD rfl (by decide) (xin_v (by decide)) dL_isNode_238 ?_
  refine ag_icmp_ge 253 dL_isNode_239 (by decide) (fun c1 => ?_) (fun c1 => ?_)
  · rw [if_pos c1] at hf
    refine ag_iconst (0 : Int32) dL_isNode_253 (by decide) ?_
    refine ag_lv [1, 2, 3, 4, 5, 0] rfl ?_
    exact wkL_isNode_254 hl hb hb0 _ _ _ _ _ hD ⟨show kc + (125) ≤ 125 by omega, show ks + (750) ≤ 750 by omega⟩ hf
  · rw [if_neg c1] at hf
    refine ag_iload 0 dL_isNode_242 rfl ?_
    refine ag_bipush (49 : Int32) dL_isNode_244 (by decide) ?_
    refine ag_icmp_ge 253 dL_isNode_246 (by decide) (fun c2 => ?_) (fun c2 => ?_)
    · rw [if_pos c2] at hf
      refine ag_iconst (0 : Int32) dL_isNode_253 (by decide) ?_
      refine ag_lv [1, 2, 3, 4, 5, 0] rfl ?_
      exact wkL_isNode_254 hl hb hb0 _ _ _ _ _ hD ⟨show kc + (125) ≤ 125 by omega, show ks + (750) ≤ 750 by omega⟩ hf
    · rw [if_neg c2] at hf
      refine ag_iconst (1 : Int32) dL_isNode_249 (by decide) ?_
      refine ag_goto 254 dL_isNode_250 (by decide) ?_
      refine ag_lv [1, 2, 3, 4, 5, 0] rfl ?_
      exact wkL_isNode_254 hl hb hb0 _ _ _ _ _ hD ⟨show kc + (125) ≤ 125 by omega, show ks + (750) ≤ 750 by omega⟩ hf
def gL_isNode_184 (lo t Ls : Nat) (xs : Nat → Int32) (K : Int32 → TH → MS → Prop) (h : TH) (L : MS) (a10 : Int32) (a11 : Int32) (a12 : Int32) : Prop :=
  gL_does lo t Ls xs (fun v2 h3 L4 => (if v2 = a12 then K (1 : Int32) h3 L4 else K (0 : Int32) h3 L4)) h L (6 : Int32) a10 a11 (0 : Int32) (0 : Int32) (0 : Int32)
set_option maxHeartbeats 4000000 in
set_option maxRecDepth 100000 in
theorem wkL_isNode_184 {l : Launch} {g : xG} {x0 : xV} {b lo t Ls : Nat} {xs : Nat → Int32} {K : Int32 → TH → MS → Prop} {kc ks : Nat} (hl : l.stackTraces = false) (hb : b + 8 < lo) (hb0 : b < x0.1 ∧ x0.2 b = none) (h : TH) (L : MS) (a10 : Int32) (a11 : Int32) (a12 : Int32) (hD : LDp lo h) (hc : kc + (125) ≤ 125 ∧ ks + (750) ≤ 750) (hf : gL_isNode_184 lo t Ls xs K h L a10 a11 a12) : AWG (XS b Ls xs) (zR rmL_isNode g lo x0 K) ML_isNode rmL_isNode l g x0 kc ks (LW g lo h L) 184 [(0, va_rf (some t)), (10, .int a10), (11, .int a11), (12, .int a12)] [] := by
  rw [gL_isNode_184] at hf
  refine ag_qload_n 0 dL_isNode_184 rfl ?_
  refine ag_bipush (6 : Int32) dL_isNode_185 (by decide) ?_
  refine ag_iload 1 dL_isNode_187 rfl ?_
  refine ag_iload 2 dL_isNode_189 rfl ?_
  refine ag_iconst (0 : Int32) dL_isNode_191 (by decide) ?_
  refine ag_iconst (0 : Int32) dL_isNode_192 (by decide) ?_
  refine ag_iconst (0 : Int32) dL_isNode_193 (by decide) ?_
  refine ag_callRH (fun s a c h => h.1) [va_rf (some t), .int (6 : Int32), .int a10, .int a11, .int (0 : Int32), .int (0 : Int32), .int (0 : Int32)] 7 (ctL_does hl _ _ _ _ _ _ _ _ hD hf) ⟨wl1 (i := 129) rfl rfl, ciL_does⟩ (wl1 (i := 130) rfl rfl) dL_isNode_194 rfl rfl (Nat.le_of_ble_eq_true rfl) ⟨Nat.le_of_ble_eq_true rfl, Nat.le_of_ble_eq_true rfl⟩ ⟨show kc + 125 ≤ 125 by omega, show ks + 750 ≤ 750 by omega⟩ (fun v2 h3 L4 hf hD5 => ?_)
  refine ag_iload 3 dL_isNode_197 rfl ?_
  refine ag_icmp_ne 206 dL_isNode_199 (by decide) (fun c6 => ?_) (fun c6 => ?_)
  · rw [if_neg c6] at hf
    refine ag_iconst (0 : Int32) dL_isNode_206 (by decide) ?_
    exact agr_zret hD5 hf rfl dL_isNode_207 rfl ⟨show kc + 125 + 0 ≤ 125 by omega, show ks + 750 + 0 ≤ 750 by omega⟩
  · rw [if_pos c6] at hf
    refine ag_iconst (1 : Int32) dL_isNode_202 (by decide) ?_
    refine ag_goto 207 dL_isNode_203 (by decide) ?_
    exact agr_zret hD5 hf rfl dL_isNode_207 rfl ⟨show kc + 125 + 0 ≤ 125 by omega, show ks + 750 + 0 ≤ 750 by omega⟩
def gL_isNode_162 (lo t Ls : Nat) (xs : Nat → Int32) (K : Int32 → TH → MS → Prop) (h : TH) (L : MS) (a10 : Int32) (a11 : Int32) (a12 : Int32) : Prop :=
  (if a12 < 0 then gL_isNode_184 lo t Ls xs K h L a10 a11 a12 else (xin a12 60 = true ∧ (∃ W3, (ms_I (ms_I L 8 a12.toNatClampNeg (0 : Int32)) 9 a12.toNatClampNeg (0 : Int32)) = W3 ∧ (∃ W4, (ms_I W3 7 (4 : Int32).toNatClampNeg ((m_I W3 7 (4 : Int32).toNatClampNeg) + (1 : Int32))) = W4 ∧ gL_isNode_184 lo t Ls xs K h W4 a10 a11 a12))))
set_option maxHeartbeats 4000000 in
set_option maxRecDepth 100000 in
theorem wkL_isNode_162 {l : Launch} {g : xG} {x0 : xV} {b lo t Ls : Nat} {xs : Nat → Int32} {K : Int32 → TH → MS → Prop} {kc ks : Nat} (hl : l.stackTraces = false) (hb : b + 8 < lo) (hb0 : b < x0.1 ∧ x0.2 b = none) (h : TH) (L : MS) (a10 : Int32) (a11 : Int32) (a12 : Int32) (hD : LDp lo h) (hc : kc + (125) ≤ 125 ∧ ks + (750) ≤ 750) (hf : gL_isNode_162 lo t Ls xs K h L a10 a11 a12) : AWG (XS b Ls xs) (zR rmL_isNode g lo x0 K) ML_isNode rmL_isNode l g x0 kc ks (LW g lo h L) 162 [(0, va_rf (some t)), (1, .ref (lo + 8)), (2, .ref (lo + 9)), (3, .ref (lo + 7)), (10, .int a10), (11, .int a11), (12, .int a12)] [] := by
  rw [gL_isNode_162] at hf
  refine ag_iload 6 dL_isNode_162 rfl ?_
  refine ag_if_lt 184 dL_isNode_164 (by decide) (fun c1 => ?_) (fun c1 => ?_)
  · rw [if_pos c1] at hf
    refine ag_lv [0, 4, 5, 6] rfl ?_
    exact wkL_isNode_184 hl hb hb0 _ _ _ _ _ hD ⟨show kc + (125) ≤ 125 by omega, show ks + (750) ≤ 750 by omega⟩ hf
  · rw [if_neg c1] at hf
    refine ag_aload_n 1 dL_isNode_167 rfl ?_
    refine ag_iload 6 dL_isNode_168 rfl ?_
    refine ag_iconst (0 : Int32) dL_isNode_170 (by decide) ?_
    obtain ⟨hi2, hf⟩ := hf
    refine ar_iast 8 60 hD rfl (by decide) (xin_v hi2) dL_isNode_171 ?_
    refine ag_aload_n 2 dL_isNode_172 rfl ?_
    refine ag_iload 6 dL_isNode_173 rfl ?_
    refine ag_iconst (0 : Int32) dL_isNode_175 (by decide) ?_
    obtain ⟨W3, hW3, hf⟩ := hf
    refine ar_iast 9 60 hD rfl (by decide) (xin_v hi2) dL_isNode_176 ?_
    rw [hW3]
    refine ag_aload_n 3 dL_isNode_177 rfl ?_
    refine ag_iconst (4 : Int32) dL_isNode_178 (by decide) ?_
    refine ag_dup2 dL_isNode_179 rfl rfl ?_
    refine ar_iald 7 5 hD rfl (by decide) (xin_v (by decide)) dL_isNode_180 ?_
    refine ag_iconst (1 : Int32) dL_isNode_181 (by decide) ?_
    refine ag_iadd dL_isNode_182 ?_
    obtain ⟨W4, hW4, hf⟩ := hf
    refine ar_iast 7 5 hD rfl (by decide) (xin_v (by decide)) dL_isNode_183 ?_
    rw [hW4]
    refine ag_lv [0, 4, 5, 6] rfl ?_
    exact wkL_isNode_184 hl hb hb0 _ _ _ _ _ hD ⟨show kc + (125) ≤ 125 by omega, show ks + (750) ≤ 750 by omega⟩ hf
def gL_isNode_131 (lo t Ls : Nat) (xs : Nat → Int32) (K : Int32 → TH → MS → Prop) (h : TH) (L : MS) (a10 : Int32) (a11 : Int32) (s0 : Int32) : Prop :=
  (if (m_I L 7 (4 : Int32).toNatClampNeg) ≤ (50 : Int32) then gL_isNode_162 lo t Ls xs K h L a10 a11 s0 else (if s0 = (-100 : Int32) then (t_kd h t = 7 ∧ ∃ v5 h6, fX8_node h t (0 : Int32) = some (.inl (v5, h6)) ∧ LDp lo h6 ∧ (if v5 < 0 then K (0 : Int32) h6 L else K (1 : Int32) h6 L)) else gL_isNode_162 lo t Ls xs K h L a10 a11 s0))
set_option maxHeartbeats 4000000 in
set_option maxRecDepth 100000 in
theorem wkL_isNode_131 {l : Launch} {g : xG} {x0 : xV} {b lo t Ls : Nat} {xs : Nat → Int32} {K : Int32 → TH → MS → Prop} {kc ks : Nat} (hl : l.stackTraces = false) (hb : b + 8 < lo) (hb0 : b < x0.1 ∧ x0.2 b = none) (h : TH) (L : MS) (a10 : Int32) (a11 : Int32) (s0 : Int32) (hD : LDp lo h) (hc : kc + (125) ≤ 125 ∧ ks + (750) ≤ 750) (hf : gL_isNode_131 lo t Ls xs K h L a10 a11 s0) : AWG (XS b Ls xs) (zR rmL_isNode g lo x0 K) ML_isNode rmL_isNode l g x0 kc ks (LW g lo h L) 131 [(0, va_rf (some t)), (1, .ref (lo + 8)), (2, .ref (lo + 9)), (3, .ref (lo + 7)), (10, .int a10), (11, .int a11)] [.int s0] := by
  rw [gL_isNode_131] at hf
  refine ag_istore [(12, .int s0), (0, va_rf (some t)), (1, .ref (lo + 8)), (2, .ref (lo + 9)), (3, .ref (lo + 7)), (10, .int a10), (11, .int a11)] dL_isNode_131 (by decide) rfl ?_
  refine ag_aload_n 4 dL_isNode_133 rfl ?_
  refine ag_iconst (4 : Int32) dL_isNode_134 (by decide) ?_
  refine ar_iald 7 5 hD rfl (by decide) (xin_v (by decide)) dL_isNode_135 ?_
  refine ag_bipush (50 : Int32) dL_isNode_136 (by decide) ?_
  refine ag_icmp_le 162 dL_isNode_138 (by decide) (fun c1 => ?_) (fun c1 => ?_)
  · rw [if_pos c1] at hf
    refine ag_lv [1, 2, 3, 4, 5, 6, 0] rfl ?_
    exact wkL_isNode_162 hl hb hb0 _ _ _ _ _ hD ⟨show kc + (125) ≤ 125 by omega, show ks + (750) ≤ 750 by omega⟩ hf
  · rw [if_neg c1] at hf
    refine ag_iload 0 dL_isNode_141 rfl ?_
    refine ag_bipush (-100 : Int32) dL_isNode_143 (by decide) ?_
    refine ag_icmp_ne 162 dL_isNode_145 (by decide) (fun c2 => ?_) (fun c2 => ?_)
    · rw [if_neg c2] at hf
      refine ag_lv [1, 2, 3, 4, 5, 6, 0] rfl ?_
      exact wkL_isNode_162 hl hb hb0 _ _ _ _ _ hD ⟨show kc + (125) ≤ 125 by omega, show ks + (750) ≤ 750 by omega⟩ hf
    · rw [if_pos c2] at hf
      refine ag_qload_n 1 dL_isNode_148 rfl ?_
      refine ag_iconst (0 : Int32) dL_isNode_149 (by decide) ?_
      obtain ⟨hk_3, v5, h6, q4, hD7, hf⟩ := hf
      refine ag_callV 6 (some t) [.int (0 : Int32)] 1 rfl (LW_ob hk_3) rfl rfl (ctC hD (ctX8_node hl h _ _ q4)) ⟨wl4 (i := 22) rfl rfl, ciX8_node.1, ciX8_node.2.1, ciX8_node.2.2⟩ (wl4 (i := 23) rfl rfl) (wl4 (i := 24) rfl rfl) dL_isNode_150 rfl rfl (Nat.le_of_ble_eq_true rfl) ⟨Nat.le_of_ble_eq_true rfl, Nat.le_of_ble_eq_true rfl⟩ ⟨show kc + 1 ≤ 125 by omega, show ks + 6 ≤ 750 by omega⟩ (fun _ => ?_)
      refine ag_if_lt 160 dL_isNode_153 (by decide) (fun c8 => ?_) (fun c8 => ?_)
      · rw [if_pos c8] at hf
        refine ag_iconst (0 : Int32) dL_isNode_160 (by decide) ?_
        exact agr_zret hD7 hf rfl dL_isNode_161 rfl ⟨show kc + 1 + 0 ≤ 125 by omega, show ks + 6 + 0 ≤ 750 by omega⟩
      · rw [if_neg c8] at hf
        refine ag_iconst (1 : Int32) dL_isNode_156 (by decide) ?_
        refine ag_goto 161 dL_isNode_157 (by decide) ?_
        exact agr_zret hD7 hf rfl dL_isNode_161 rfl ⟨show kc + 1 + 0 ≤ 125 by omega, show ks + 6 + 0 ≤ 750 by omega⟩
def gL_isNode_83 (lo t Ls : Nat) (xs : Nat → Int32) (K : Int32 → TH → MS → Prop) (h : TH) (L : MS) (a10 : Int32) (s0 : Int32) : Prop :=
  (if a10 = (m_I L 7 (1 : Int32).toNatClampNeg) then gL_isNode_131 lo t Ls xs K h L a10 s0 (-300 : Int32) else (xin a10 48 = true ∧ (if s0 ≤ (m_I L 6 a10.toNatClampNeg) then (if (m_I L 7 (4 : Int32).toNatClampNeg) ≤ (50 : Int32) then gL_isNode_131 lo t Ls xs K h L a10 s0 (m_I L 7 (4 : Int32).toNatClampNeg) else gL_isNode_131 lo t Ls xs K h L a10 s0 (-100 : Int32)) else gL_isNode_131 lo t Ls xs K h L a10 s0 (-200 : Int32))))
set_option maxHeartbeats 4000000 in
set_option maxRecDepth 100000 in
theorem wkL_isNode_83 {l : Launch} {g : xG} {x0 : xV} {b lo t Ls : Nat} {xs : Nat → Int32} {K : Int32 → TH → MS → Prop} {kc ks : Nat} (hl : l.stackTraces = false) (hb : b + 8 < lo) (hb0 : b < x0.1 ∧ x0.2 b = none) (h : TH) (L : MS) (a10 : Int32) (s0 : Int32) (hD : LDp lo h) (hc : kc + (125) ≤ 125 ∧ ks + (750) ≤ 750) (hf : gL_isNode_83 lo t Ls xs K h L a10 s0) : AWG (XS b Ls xs) (zR rmL_isNode g lo x0 K) ML_isNode rmL_isNode l g x0 kc ks (LW g lo h L) 83 [(0, va_rf (some t)), (1, .ref (lo + 8)), (2, .ref (lo + 9)), (3, .ref (lo + 7)), (4, .ref (lo + 6)), (10, .int a10)] [.int s0] := by
  rw [gL_isNode_83] at hf
  refine ag_istore [(11, .int s0), (0, va_rf (some t)), (1, .ref (lo + 8)), (2, .ref (lo + 9)), (3, .ref (lo + 7)), (4, .ref (lo + 6)), (10, .int a10)] dL_isNode_83 (by decide) rfl ?_
  refine ag_iload 6 dL_isNode_85 rfl ?_
  refine ag_aload_n 4 dL_isNode_87 rfl ?_
  refine ag_iconst (1 : Int32) dL_isNode_88 (by decide) ?_
  refine ar_iald 7 5 hD rfl (by decide) (xin_v (by decide)) dL_isNode_89 ?_
  refine ag_icmp_ne 99 dL_isNode_90 (by decide) (fun c1 => ?_) (fun c1 => ?_)
  · rw [if_neg c1] at hf
    refine ag_iload 0 dL_isNode_99 rfl ?_
    refine ag_aload 5 dL_isNode_101 rfl ?_
    refine ag_iload 6 dL_isNode_103 rfl ?_
    obtain ⟨hi2, hf⟩ := hf
    refine ar_iald 6 48 hD rfl (by decide) (xin_v hi2) dL_isNode_105 ?_
    refine ag_icmp_le 115 dL_isNode_106 (by decide) (fun c3 => ?_) (fun c3 => ?_)
    · rw [if_pos c3] at hf
      refine ag_aload_n 4 dL_isNode_115 rfl ?_
      refine ag_iconst (4 : Int32) dL_isNode_116 (by decide) ?_
      refine ar_iald 7 5 hD rfl (by decide) (xin_v (by decide)) dL_isNode_117 ?_
      refine ag_bipush (50 : Int32) dL_isNode_118 (by decide) ?_
      refine ag_icmp_le 128 dL_isNode_120 (by decide) (fun c4 => ?_) (fun c4 => ?_)
      · rw [if_pos c4] at hf
        refine ag_aload_n 4 dL_isNode_128 rfl ?_
        refine ag_iconst (4 : Int32) dL_isNode_129 (by decide) ?_
        refine ar_iald 7 5 hD rfl (by decide) (xin_v (by decide)) dL_isNode_130 ?_
        refine ag_lv [1, 2, 3, 4, 6, 0] rfl ?_
        exact wkL_isNode_131 hl hb hb0 _ _ _ _ _ hD ⟨show kc + (125) ≤ 125 by omega, show ks + (750) ≤ 750 by omega⟩ hf
      · rw [if_neg c4] at hf
        refine ag_bipush (-100 : Int32) dL_isNode_123 (by decide) ?_
        refine ag_goto 131 dL_isNode_125 (by decide) ?_
        refine ag_lv [1, 2, 3, 4, 6, 0] rfl ?_
        exact wkL_isNode_131 hl hb hb0 _ _ _ _ _ hD ⟨show kc + (125) ≤ 125 by omega, show ks + (750) ≤ 750 by omega⟩ hf
    · rw [if_neg c3] at hf
      refine ag_sipush (-200 : Int32) dL_isNode_109 (by decide) ?_
      refine ag_goto 131 dL_isNode_112 (by decide) ?_
      refine ag_lv [1, 2, 3, 4, 6, 0] rfl ?_
      exact wkL_isNode_131 hl hb hb0 _ _ _ _ _ hD ⟨show kc + (125) ≤ 125 by omega, show ks + (750) ≤ 750 by omega⟩ hf
  · rw [if_pos c1] at hf
    refine ag_sipush (-300 : Int32) dL_isNode_93 (by decide) ?_
    refine ag_goto 131 dL_isNode_96 (by decide) ?_
    refine ag_lv [1, 2, 3, 4, 6, 0] rfl ?_
    exact wkL_isNode_131 hl hb hb0 _ _ _ _ _ hD ⟨show kc + (125) ≤ 125 by omega, show ks + (750) ≤ 750 by omega⟩ hf
def gL_isNode_59 (lo t Ls : Nat) (xs : Nat → Int32) (K : Int32 → TH → MS → Prop) (h : TH) (L : MS) (a8 : Int32) (s0 : Int32) : Prop :=
  (if (m_I L 7 (1 : Int32).toNatClampNeg) ≤ s0 then gL_isNode_83 lo t Ls xs K h L s0 (0 : Int32) else (xin s0 48 = true ∧ (¬ ((m_I L 6 s0.toNatClampNeg) + (2 : Int32)) = 0 ∧ gL_isNode_83 lo t Ls xs K h L s0 (a8 - a8 / ((m_I L 6 s0.toNatClampNeg) + (2 : Int32)) * ((m_I L 6 s0.toNatClampNeg) + (2 : Int32))))))
set_option maxHeartbeats 4000000 in
set_option maxRecDepth 100000 in
theorem wkL_isNode_59 {l : Launch} {g : xG} {x0 : xV} {b lo t Ls : Nat} {xs : Nat → Int32} {K : Int32 → TH → MS → Prop} {kc ks : Nat} (hl : l.stackTraces = false) (hb : b + 8 < lo) (hb0 : b < x0.1 ∧ x0.2 b = none) (h : TH) (L : MS) (a8 : Int32) (s0 : Int32) (hD : LDp lo h) (hc : kc + (125) ≤ 125 ∧ ks + (750) ≤ 750) (hf : gL_isNode_59 lo t Ls xs K h L a8 s0) : AWG (XS b Ls xs) (zR rmL_isNode g lo x0 K) ML_isNode rmL_isNode l g x0 kc ks (LW g lo h L) 59 [(0, va_rf (some t)), (1, .ref (lo + 8)), (2, .ref (lo + 9)), (3, .ref (lo + 7)), (4, .ref (lo + 6)), (8, .int a8)] [.int s0] := by
  rw [gL_isNode_59] at hf
  refine ag_istore [(10, .int s0), (0, va_rf (some t)), (1, .ref (lo + 8)), (2, .ref (lo + 9)), (3, .ref (lo + 7)), (4, .ref (lo + 6)), (8, .int a8)] dL_isNode_59 (by decide) rfl ?_
  refine ag_iload 0 dL_isNode_61 rfl ?_
  refine ag_aload_n 4 dL_isNode_63 rfl ?_
  refine ag_iconst (1 : Int32) dL_isNode_64 (by decide) ?_
  refine ar_iald 7 5 hD rfl (by decide) (xin_v (by decide)) dL_isNode_65 ?_
  refine ag_icmp_ge 82 dL_isNode_66 (by decide) (fun c1 => ?_) (fun c1 => ?_)
  · rw [if_pos c1] at hf
    refine ag_iconst (0 : Int32) dL_isNode_82 (by decide) ?_
    refine ag_lv [1, 2, 3, 4, 5, 0] rfl ?_
    exact wkL_isNode_83 hl hb hb0 _ _ _ _ hD ⟨show kc + (125) ≤ 125 by omega, show ks + (750) ≤ 750 by omega⟩ hf
  · rw [if_neg c1] at hf
    refine ag_iload 6 dL_isNode_69 rfl ?_
    refine ag_aload 5 dL_isNode_71 rfl ?_
    refine ag_iload 0 dL_isNode_73 rfl ?_
    obtain ⟨hi2, hf⟩ := hf
    refine ar_iald 6 48 hD rfl (by decide) (xin_v hi2) dL_isNode_75 ?_
    refine ag_iconst (2 : Int32) dL_isNode_76 (by decide) ?_
    refine ag_iadd dL_isNode_77 ?_
    obtain ⟨hz3, hf⟩ := hf
    refine ag_irem dL_isNode_78 hz3 ?_
    refine ag_goto 83 dL_isNode_79 (by decide) ?_
    refine ag_lv [1, 2, 3, 4, 5, 0] rfl ?_
    exact wkL_isNode_83 hl hb hb0 _ _ _ _ hD ⟨show kc + (125) ≤ 125 by omega, show ks + (750) ≤ 750 by omega⟩ hf
def gL_isNode_47 (lo t Ls : Nat) (xs : Nat → Int32) (K : Int32 → TH → MS → Prop) (h : TH) (L : MS) (a8 : Int32) : Prop :=
  gL_isNode_59 lo t Ls xs K h L a8 (m_I L 7 (1 : Int32).toNatClampNeg)
set_option maxHeartbeats 4000000 in
set_option maxRecDepth 100000 in
theorem wkL_isNode_47 {l : Launch} {g : xG} {x0 : xV} {b lo t Ls : Nat} {xs : Nat → Int32} {K : Int32 → TH → MS → Prop} {kc ks : Nat} (hl : l.stackTraces = false) (hb : b + 8 < lo) (hb0 : b < x0.1 ∧ x0.2 b = none) (h : TH) (L : MS) (a8 : Int32) (hD : LDp lo h) (hc : kc + (125) ≤ 125 ∧ ks + (750) ≤ 750) (hf : gL_isNode_47 lo t Ls xs K h L a8) : AWG (XS b Ls xs) (zR rmL_isNode g lo x0 K) ML_isNode rmL_isNode l g x0 kc ks (LW g lo h L) 47 [(0, va_rf (some t)), (1, .ref (lo + 8)), (2, .ref (lo + 9)), (3, .ref (lo + 7)), (4, .ref (lo + 6)), (8, .int a8)] [] := by
  rw [gL_isNode_47] at hf
  refine ag_aload_n 3 dL_isNode_47 rfl ?_
  refine ag_iconst (1 : Int32) dL_isNode_48 (by decide) ?_
  refine ar_iald 7 5 hD rfl (by decide) (xin_v (by decide)) dL_isNode_49 ?_
  refine ag_goto 59 dL_isNode_50 (by decide) ?_
  refine ag_lv [0, 1, 2, 3, 4, 5] rfl ?_
  exact wkL_isNode_59 hl hb hb0 _ _ _ _ hD ⟨show kc + (125) ≤ 125 by omega, show ks + (750) ≤ 750 by omega⟩ hf
def gL_isNode_26 (lo t Ls : Nat) (xs : Nat → Int32) (K : Int32 → TH → MS → Prop) (h : TH) (L : MS) (a5 : Int32) (a7 : Int32) (a8 : Int32) (s0 : Int32) : Prop :=
  (if a5 = 0 then (if (a7 - a7 / (20 : Int32) * (20 : Int32)) = 0 then gL_isNode_47 lo t Ls xs K h L a8 else (if (m_I L 7 (1 : Int32).toNatClampNeg) = 0 then gL_isNode_47 lo t Ls xs K h L a8 else (¬ (m_I L 7 (1 : Int32).toNatClampNeg) = 0 ∧ gL_isNode_59 lo t Ls xs K h L a8 (a7 - a7 / (m_I L 7 (1 : Int32).toNatClampNeg) * (m_I L 7 (1 : Int32).toNatClampNeg))))) else (if a5 = (1 : Int32) then (if (a7 - a7 / (3 : Int32) * (3 : Int32)) = 0 then gL_isNode_232 lo t Ls xs K h L s0 (-1 : Int32) else gL_isNode_232 lo t Ls xs K h L s0 ((a7 / (3 : Int32)) - (a7 / (3 : Int32)) / (50 : Int32) * (50 : Int32))) else (if (a7 - a7 / (5 : Int32) * (5 : Int32)) = 0 then gL_isNode_497 lo t Ls xs K h L s0 (a7 - a7 / (5 : Int32) * (5 : Int32)) (a8 - a8 / (5 : Int32) * (5 : Int32)) (1 : Int32) else (if (a7 - a7 / (5 : Int32) * (5 : Int32)) = (1 : Int32) then gL_isNode_497 lo t Ls xs K h L s0 (a7 - a7 / (5 : Int32) * (5 : Int32)) (a8 - a8 / (5 : Int32) * (5 : Int32)) (4 : Int32) else (if (a7 - a7 / (5 : Int32) * (5 : Int32)) = (2 : Int32) then gL_isNode_497 lo t Ls xs K h L s0 (a7 - a7 / (5 : Int32) * (5 : Int32)) (a8 - a8 / (5 : Int32) * (5 : Int32)) (16 : Int32) else gL_isNode_497 lo t Ls xs K h L s0 (a7 - a7 / (5 : Int32) * (5 : Int32)) (a8 - a8 / (5 : Int32) * (5 : Int32)) (64 : Int32))))))
set_option maxHeartbeats 4000000 in
set_option maxRecDepth 100000 in
theorem wkL_isNode_26 {l : Launch} {g : xG} {x0 : xV} {b lo t Ls : Nat} {xs : Nat → Int32} {K : Int32 → TH → MS → Prop} {kc ks : Nat} (hl : l.stackTraces = false) (hb : b + 8 < lo) (hb0 : b < x0.1 ∧ x0.2 b = none) (h : TH) (L : MS) (a5 : Int32) (a7 : Int32) (a8 : Int32) (s0 : Int32) (hD : LDp lo h) (hc : kc + (125) ≤ 125 ∧ ks + (750) ≤ 750) (hf : gL_isNode_26 lo t Ls xs K h L a5 a7 a8 s0) : AWG (XS b Ls xs) (zR rmL_isNode g lo x0 K) ML_isNode rmL_isNode l g x0 kc ks (LW g lo h L) 26 [(0, va_rf (some t)), (1, .ref (lo + 8)), (2, .ref (lo + 9)), (3, .ref (lo + 7)), (4, .ref (lo + 6)), (5, .int a5), (7, .int a7), (8, .int a8)] [.int s0] := by
  rw [gL_isNode_26] at hf
  refine ag_istore [(9, .int s0), (0, va_rf (some t)), (1, .ref (lo + 8)), (2, .ref (lo + 9)), (3, .ref (lo + 7)), (4, .ref (lo + 6)), (5, .int a5), (7, .int a7), (8, .int a8)] dL_isNode_26 (by decide) rfl ?_
  refine ag_iload 6 dL_isNode_28 rfl ?_
  refine ag_if_ne 208 dL_isNode_30 (by decide) (fun c1 => ?_) (fun c1 => ?_)
  · rw [if_neg c1] at hf
    refine ag_iload 6 dL_isNode_208 rfl ?_
    refine ag_iconst (1 : Int32) dL_isNode_210 (by decide) ?_
    refine ag_icmp_ne 453 dL_isNode_211 (by decide) (fun c2 => ?_) (fun c2 => ?_)
    · rw [if_neg c2] at hf
      refine ag_iload 7 dL_isNode_453 rfl ?_
      refine ag_iconst (5 : Int32) dL_isNode_455 (by decide) ?_
      refine ag_irem dL_isNode_456 (by decide) ?_
      refine ag_istore [(10, .int (a7 - a7 / (5 : Int32) * (5 : Int32))), (9, .int s0), (0, va_rf (some t)), (1, .ref (lo + 8)), (2, .ref (lo + 9)), (3, .ref (lo + 7)), (4, .ref (lo + 6)), (5, .int a5), (7, .int a7), (8, .int a8)] dL_isNode_457 (by decide) rfl ?_
      refine ag_iload 9 dL_isNode_459 rfl ?_
      refine ag_iconst (5 : Int32) dL_isNode_461 (by decide) ?_
      refine ag_irem dL_isNode_462 (by decide) ?_
      refine ag_istore [(11, .int (a8 - a8 / (5 : Int32) * (5 : Int32))), (10, .int (a7 - a7 / (5 : Int32) * (5 : Int32))), (9, .int s0), (0, va_rf (some t)), (1, .ref (lo + 8)), (2, .ref (lo + 9)), (3, .ref (lo + 7)), (4, .ref (lo + 6)), (5, .int a5), (7, .int a7), (8, .int a8)] dL_isNode_463 (by decide) rfl ?_
      refine ag_iload 1 dL_isNode_465 rfl ?_
      refine ag_if_ne 474 dL_isNode_467 (by decide) (fun c3 => ?_) (fun c3 => ?_)
      · rw [if_neg c3] at hf
        refine ag_iload 1 dL_isNode_474 rfl ?_
        refine ag_iconst (1 : Int32) dL_isNode_476 (by decide) ?_
        refine ag_icmp_ne 484 dL_isNode_477 (by decide) (fun c4 => ?_) (fun c4 => ?_)
        · rw [if_neg c4] at hf
          refine ag_iload 1 dL_isNode_484 rfl ?_
          refine ag_iconst (2 : Int32) dL_isNode_486 (by decide) ?_
          refine ag_icmp_ne 495 dL_isNode_487 (by decide) (fun c5 => ?_) (fun c5 => ?_)
          · rw [if_neg c5] at hf
            refine ag_bipush (64 : Int32) dL_isNode_495 (by decide) ?_
            refine ag_lv [3, 5, 6, 2, 1, 0] rfl ?_
            exact wkL_isNode_497 hl hb hb0 _ _ _ _ _ _ hD ⟨show kc + (125) ≤ 125 by omega, show ks + (750) ≤ 750 by omega⟩ hf
          · rw [if_pos c5] at hf
            refine ag_bipush (16 : Int32) dL_isNode_490 (by decide) ?_
            refine ag_goto 497 dL_isNode_492 (by decide) ?_
            refine ag_lv [3, 5, 6, 2, 1, 0] rfl ?_
            exact wkL_isNode_497 hl hb hb0 _ _ _ _ _ _ hD ⟨show kc + (125) ≤ 125 by omega, show ks + (750) ≤ 750 by omega⟩ hf
        · rw [if_pos c4] at hf
          refine ag_iconst (4 : Int32) dL_isNode_480 (by decide) ?_
          refine ag_goto 497 dL_isNode_481 (by decide) ?_
          refine ag_lv [3, 5, 6, 2, 1, 0] rfl ?_
          exact wkL_isNode_497 hl hb hb0 _ _ _ _ _ _ hD ⟨show kc + (125) ≤ 125 by omega, show ks + (750) ≤ 750 by omega⟩ hf
      · rw [if_pos c3] at hf
        refine ag_iconst (1 : Int32) dL_isNode_470 (by decide) ?_
        refine ag_goto 497 dL_isNode_471 (by decide) ?_
        refine ag_lv [3, 5, 6, 2, 1, 0] rfl ?_
        exact wkL_isNode_497 hl hb hb0 _ _ _ _ _ _ hD ⟨show kc + (125) ≤ 125 by omega, show ks + (750) ≤ 750 by omega⟩ hf
    · rw [if_pos c2] at hf
      refine ag_iload 7 dL_isNode_214 rfl ?_
      refine ag_iconst (3 : Int32) dL_isNode_216 (by decide) ?_
      refine ag_irem dL_isNode_217 (by decide) ?_
      refine ag_if_ne 225 dL_isNode_218 (by decide) (fun c6 => ?_) (fun c6 => ?_)
      · rw [if_neg c6] at hf
        refine ag_iload 7 dL_isNode_225 rfl ?_
        refine ag_iconst (3 : Int32) dL_isNode_227 (by decide) ?_
        refine ag_idiv dL_isNode_228 (by decide) ?_
        refine ag_bipush (50 : Int32) dL_isNode_229 (by decide) ?_
        refine ag_irem dL_isNode_231 (by decide) ?_
        refine ag_lv [1, 2, 3, 4, 0] rfl ?_
        exact wkL_isNode_232 hl hb hb0 _ _ _ _ hD ⟨show kc + (125) ≤ 125 by omega, show ks + (750) ≤ 750 by omega⟩ hf
      · rw [if_pos c6] at hf
        refine ag_iconst (-1 : Int32) dL_isNode_221 (by decide) ?_
        refine ag_goto 232 dL_isNode_222 (by decide) ?_
        refine ag_lv [1, 2, 3, 4, 0] rfl ?_
        exact wkL_isNode_232 hl hb hb0 _ _ _ _ hD ⟨show kc + (125) ≤ 125 by omega, show ks + (750) ≤ 750 by omega⟩ hf
  · rw [if_pos c1] at hf
    refine ag_iload 7 dL_isNode_33 rfl ?_
    refine ag_bipush (20 : Int32) dL_isNode_35 (by decide) ?_
    refine ag_irem dL_isNode_37 (by decide) ?_
    refine ag_if_eq 47 dL_isNode_38 (by decide) (fun c7 => ?_) (fun c7 => ?_)
    · rw [if_pos c7] at hf
      refine ag_lv [1, 2, 3, 4, 5, 8] rfl ?_
      exact wkL_isNode_47 hl hb hb0 _ _ _ hD ⟨show kc + (125) ≤ 125 by omega, show ks + (750) ≤ 750 by omega⟩ hf
    · rw [if_neg c7] at hf
      refine ag_aload_n 4 dL_isNode_41 rfl ?_
      refine ag_iconst (1 : Int32) dL_isNode_42 (by decide) ?_
      refine ar_iald 7 5 hD rfl (by decide) (xin_v (by decide)) dL_isNode_43 ?_
      refine ag_if_ne 53 dL_isNode_44 (by decide) (fun c8 => ?_) (fun c8 => ?_)
      · rw [if_neg c8] at hf
        refine ag_iload 7 dL_isNode_53 rfl ?_
        refine ag_aload_n 4 dL_isNode_55 rfl ?_
        refine ag_iconst (1 : Int32) dL_isNode_56 (by decide) ?_
        refine ar_iald 7 5 hD rfl (by decide) (xin_v (by decide)) dL_isNode_57 ?_
        obtain ⟨hz9, hf⟩ := hf
        refine ag_irem dL_isNode_58 hz9 ?_
        refine ag_lv [1, 2, 3, 4, 5, 8] rfl ?_
        exact wkL_isNode_59 hl hb hb0 _ _ _ _ hD ⟨show kc + (125) ≤ 125 by omega, show ks + (750) ≤ 750 by omega⟩ hf
      · rw [if_pos c8] at hf
        refine ag_lv [1, 2, 3, 4, 5, 8] rfl ?_
        exact wkL_isNode_47 hl hb hb0 _ _ _ hD ⟨show kc + (125) ≤ 125 by omega, show ks + (750) ≤ 750 by omega⟩ hf
def gL_isNode_14 (lo t Ls : Nat) (xs : Nat → Int32) (K : Int32 → TH → MS → Prop) (h : TH) (L : MS) (a5 : Int32) (a7 : Int32) (a8 : Int32) : Prop :=
  gL_isNode_26 lo t Ls xs K h L a5 a7 a8 (m_I L 7 (4 : Int32).toNatClampNeg)
set_option maxHeartbeats 4000000 in
set_option maxRecDepth 100000 in
theorem wkL_isNode_14 {l : Launch} {g : xG} {x0 : xV} {b lo t Ls : Nat} {xs : Nat → Int32} {K : Int32 → TH → MS → Prop} {kc ks : Nat} (hl : l.stackTraces = false) (hb : b + 8 < lo) (hb0 : b < x0.1 ∧ x0.2 b = none) (h : TH) (L : MS) (a5 : Int32) (a7 : Int32) (a8 : Int32) (hD : LDp lo h) (hc : kc + (125) ≤ 125 ∧ ks + (750) ≤ 750) (hf : gL_isNode_14 lo t Ls xs K h L a5 a7 a8) : AWG (XS b Ls xs) (zR rmL_isNode g lo x0 K) ML_isNode rmL_isNode l g x0 kc ks (LW g lo h L) 14 [(0, va_rf (some t)), (1, .ref (lo + 8)), (2, .ref (lo + 9)), (3, .ref (lo + 7)), (4, .ref (lo + 6)), (5, .int a5), (7, .int a7), (8, .int a8)] [] := by
  rw [gL_isNode_14] at hf
  refine ag_aload_n 3 dL_isNode_14 rfl ?_
  refine ag_iconst (4 : Int32) dL_isNode_15 (by decide) ?_
  refine ar_iald 7 5 hD rfl (by decide) (xin_v (by decide)) dL_isNode_16 ?_
  refine ag_goto 26 dL_isNode_17 (by decide) ?_
  refine ag_lv [0, 1, 2, 3, 4, 5, 6, 7] rfl ?_
  exact wkL_isNode_26 hl hb hb0 _ _ _ _ _ _ hD ⟨show kc + (125) ≤ 125 by omega, show ks + (750) ≤ 750 by omega⟩ hf
def gL_isNode (lo t Ls : Nat) (xs : Nat → Int32) (K : Int32 → TH → MS → Prop) (h : TH) (L : MS) (a5 : Int32) (a6 : Int32) (a7 : Int32) (a8 : Int32) : Prop :=
  (if (a6 - a6 / (20 : Int32) * (20 : Int32)) = 0 then gL_isNode_14 lo t Ls xs K h L a5 a7 a8 else (if (m_I L 7 (4 : Int32).toNatClampNeg) = 0 then gL_isNode_14 lo t Ls xs K h L a5 a7 a8 else (¬ (m_I L 7 (4 : Int32).toNatClampNeg) = 0 ∧ gL_isNode_26 lo t Ls xs K h L a5 a7 a8 (a6 - a6 / (m_I L 7 (4 : Int32).toNatClampNeg) * (m_I L 7 (4 : Int32).toNatClampNeg)))))
set_option maxHeartbeats 4000000 in
set_option maxRecDepth 100000 in
theorem ctL_isNode {l : Launch} {g : xG} {b lo t Ls : Nat} {xs : Nat → Int32} {K : Int32 → TH → MS → Prop} (hl : l.stackTraces = false) (hb : b + 8 < lo) (h : TH) (L : MS) (a5 : Int32) (a6 : Int32) (a7 : Int32) (a8 : Int32) (hD : LDp lo h) (hf : gL_isNode lo t Ls xs K h L a5 a6 a7 a8) : RT yL_isNode ML_isNode rmL_isNode l g lo b Ls xs [va_rf (some t), .ref (lo + 8), .ref (lo + 9), .ref (lo + 7), .ref (lo + 6), .int a5, .int a6, .int a7, .int a8] (LW g lo h L) K := by
  rw [gL_isNode] at hf
  refine RT.of (lv0 := [(0, va_rf (some t)), (1, .ref (lo + 8)), (2, .ref (lo + 9)), (3, .ref (lo + 7)), (4, .ref (lo + 6)), (5, .int a5), (6, .int a6), (7, .int a7), (8, .int a8)]) (by decide +kernel) rfl rfl (by simp [lg_sl, cat_q, cat_i, cat_l, cat_r]) (by simp [lv_args, cat_q, cat_i, cat_l, cat_r]) hl ?_
  have hb0 := LW_no (g := g) (L := L) hD hb
  have hc : 0 + 125 ≤ 125 ∧ 0 + 750 ≤ 750 := ⟨by omega, by omega⟩
  refine ag_iload 6 dL_isNode_0 rfl ?_
  refine ag_bipush (20 : Int32) dL_isNode_2 (by decide) ?_
  refine ag_irem dL_isNode_4 (by decide) ?_
  refine ag_if_eq 14 dL_isNode_5 (by decide) (fun c1 => ?_) (fun c1 => ?_)
  · rw [if_pos c1] at hf
    refine ag_lv [0, 1, 2, 3, 4, 5, 7, 8] rfl ?_
    exact wkL_isNode_14 hl hb hb0 _ _ _ _ _ hD ⟨show 0 + (125) ≤ 125 by omega, show 0 + (750) ≤ 750 by omega⟩ hf
  · rw [if_neg c1] at hf
    refine ag_aload_n 3 dL_isNode_8 rfl ?_
    refine ag_iconst (4 : Int32) dL_isNode_9 (by decide) ?_
    refine ar_iald 7 5 hD rfl (by decide) (xin_v (by decide)) dL_isNode_10 ?_
    refine ag_if_ne 20 dL_isNode_11 (by decide) (fun c2 => ?_) (fun c2 => ?_)
    · rw [if_neg c2] at hf
      refine ag_iload 6 dL_isNode_20 rfl ?_
      refine ag_aload_n 3 dL_isNode_22 rfl ?_
      refine ag_iconst (4 : Int32) dL_isNode_23 (by decide) ?_
      refine ar_iald 7 5 hD rfl (by decide) (xin_v (by decide)) dL_isNode_24 ?_
      obtain ⟨hz3, hf⟩ := hf
      refine ag_irem dL_isNode_25 hz3 ?_
      refine ag_lv [0, 1, 2, 3, 4, 5, 7, 8] rfl ?_
      exact wkL_isNode_26 hl hb hb0 _ _ _ _ _ _ hD ⟨show 0 + (125) ≤ 125 by omega, show 0 + (750) ≤ 750 by omega⟩ hf
    · rw [if_pos c2] at hf
      refine ag_lv [0, 1, 2, 3, 4, 5, 7, 8] rfl ?_
      exact wkL_isNode_14 hl hb hb0 _ _ _ _ _ hD ⟨show 0 + (125) ≤ 125 by omega, show 0 + (750) ≤ 750 by omega⟩ hf
