/-! The law's own methods that call the class, as predicates: what must hold for the method to come to its end with K. -/
abbrev ML_isPlayed : xM := (RL, cL_isPlayed, 19, (some .boolean), "isPlayed")
abbrev rmL_isPlayed : Room := { frames := 41, cells := 435, slots := 2610, locals := 2413 }
theorem ciL_isPlayed : Cond.code yL_isPlayed cL_isPlayed 19 (some .boolean) ∈ wt ∧ Cond.initialized yL_isPlayed.cls ∈ wt ∧ (yL_isPlayed.cls ≠ "java/lang/invoke/MethodHandle" ∧ yL_isPlayed.cls ≠ "java/lang/invoke/VarHandle" ∧ (parseMethodDescriptor yL_isPlayed.desc).map (fun d => d.parameters.length) = some 13) := ⟨wl4 (i := 83) rfl rfl, wl1 (i := 0) rfl rfl, by decide +kernel, by decide +kernel, by decide +kernel⟩
def gL_isPlayed_352 (lo t Ls : Nat) (xs : Nat → Int32) (K : Int32 → TH → MS → Prop) (h : TH) (L : MS) (a10 : Int32) (a11 : Int32) (a12 : Int32) (a13 : Int32) (a18 : Int32) : Prop :=
  gL_does lo t Ls xs (fun v2 h3 L4 => (if v2 = a18 then (if a13 = 0 then K (1 : Int32) h3 L4 else gL_isBoard lo t Ls xs (fun v9 h10 L11 => (if v9 = 0 then K (0 : Int32) h10 L11 else K (1 : Int32) h10 L11)) h3 L4 a10) else K (0 : Int32) h3 L4)) h L (2 : Int32) a10 a11 a12 (0 : Int32) (0 : Int32)
set_option maxHeartbeats 4000000 in
set_option maxRecDepth 100000 in
theorem wkL_isPlayed_352 {l : Launch} {g : xG} {x0 : xV} {b lo t Ls : Nat} {xs : Nat → Int32} {K : Int32 → TH → MS → Prop} {kc ks : Nat} (hl : l.stackTraces = false) (hb : b + 8 < lo) (hb0 : b < x0.1 ∧ x0.2 b = none) (h : TH) (L : MS) (a10 : Int32) (a11 : Int32) (a12 : Int32) (a13 : Int32) (a18 : Int32) (hD : LDp lo h) (hc : kc + (435) ≤ 435 ∧ ks + (2610) ≤ 2610) (hf : gL_isPlayed_352 lo t Ls xs K h L a10 a11 a12 a13 a18) : AWG (XS b Ls xs) (zR rmL_isPlayed g lo x0 K) ML_isPlayed rmL_isPlayed l g x0 kc ks (LW g lo h L) 352 [(0, va_rf (some t)), (1, .ref (lo + 0)), (2, .ref (lo + 1)), (3, .ref (lo + 2)), (8, .ref (lo + 7)), (10, .int a10), (11, .int a11), (12, .int a12), (13, .int a13), (18, .int a18)] [] := by
  rw [gL_isPlayed_352] at hf
  refine ag_qload_n 0 dL_isPlayed_352 rfl ?_
  refine ag_iconst (2 : Int32) dL_isPlayed_353 (by decide) ?_
  refine ag_iload 5 dL_isPlayed_354 rfl ?_
  refine ag_iload 6 dL_isPlayed_356 rfl ?_
  refine ag_iload 7 dL_isPlayed_358 rfl ?_
  refine ag_iconst (0 : Int32) dL_isPlayed_360 (by decide) ?_
  refine ag_iconst (0 : Int32) dL_isPlayed_361 (by decide) ?_
  refine ag_callRH (fun s a c h => h.1) [va_rf (some t), .int (2 : Int32), .int a10, .int a11, .int a12, .int (0 : Int32), .int (0 : Int32)] 7 (ctL_does hl _ _ _ _ _ _ _ _ hD hf) ⟨wl1 (i := 129) rfl rfl, ciL_does⟩ (wl1 (i := 130) rfl rfl) dL_isPlayed_362 rfl rfl (Nat.le_of_ble_eq_true rfl) ⟨Nat.le_of_ble_eq_true rfl, Nat.le_of_ble_eq_true rfl⟩ ⟨show kc + 125 ≤ 435 by omega, show ks + 750 ≤ 2610 by omega⟩ (fun v2 h3 L4 hf hD5 => ?_)
  refine ag_iload 9 dL_isPlayed_365 rfl ?_
  refine ag_icmp_ne 393 dL_isPlayed_367 (by decide) (fun c6 => ?_) (fun c6 => ?_)
  · rw [if_neg c6] at hf
    refine ag_iconst (0 : Int32) dL_isPlayed_393 (by decide) ?_
    exact agr_zret hD5 hf rfl dL_isPlayed_394 rfl ⟨show kc + 125 + 0 ≤ 435 by omega, show ks + 750 + 0 ≤ 2610 by omega⟩
  · rw [if_pos c6] at hf
    refine ag_iload 8 dL_isPlayed_370 rfl ?_
    refine ag_if_eq 389 dL_isPlayed_372 (by decide) (fun c7 => ?_) (fun c7 => ?_)
    · rw [if_pos c7] at hf
      refine ag_iconst (1 : Int32) dL_isPlayed_389 (by decide) ?_
      refine ag_goto 394 dL_isPlayed_390 (by decide) ?_
      exact agr_zret hD5 hf rfl dL_isPlayed_394 rfl ⟨show kc + 125 + 0 ≤ 435 by omega, show ks + 750 + 0 ≤ 2610 by omega⟩
    · rw [if_neg c7] at hf
      refine ag_qload_n 0 dL_isPlayed_375 rfl ?_
      refine ag_aload_n 1 dL_isPlayed_376 rfl ?_
      refine ag_aload_n 2 dL_isPlayed_377 rfl ?_
      refine ag_aload_n 3 dL_isPlayed_378 rfl ?_
      refine ag_aload 4 dL_isPlayed_379 rfl ?_
      refine ag_iload 5 dL_isPlayed_381 rfl ?_
      refine ag_callR (fun s a c h => h) hb0 [va_rf (some t), .ref (lo + 0), .ref (lo + 1), .ref (lo + 2), .ref (lo + 7), .int a10] 6 (ctL_isBoard hl hb _ _ _ hD5 hf) ⟨wl4 (i := 96) rfl rfl, ciL_isBoard⟩ (wl4 (i := 97) rfl rfl) dL_isPlayed_383 rfl rfl (Nat.le_of_ble_eq_true rfl) ⟨Nat.le_of_ble_eq_true rfl, Nat.le_of_ble_eq_true rfl⟩ ⟨show kc + 125 + 310 ≤ 435 by omega, show ks + 750 + 1860 ≤ 2610 by omega⟩ (fun v9 h10 L11 hf hD12 => ?_)
      refine ag_if_eq 393 dL_isPlayed_386 (by decide) (fun c13 => ?_) (fun c13 => ?_)
      · rw [if_pos c13] at hf
        refine ag_iconst (0 : Int32) dL_isPlayed_393 (by decide) ?_
        exact agr_zret hD12 hf rfl dL_isPlayed_394 rfl ⟨show kc + 125 + 310 + 0 ≤ 435 by omega, show ks + 750 + 1860 + 0 ≤ 2610 by omega⟩
      · rw [if_neg c13] at hf
        refine ag_iconst (1 : Int32) dL_isPlayed_389 (by decide) ?_
        refine ag_goto 394 dL_isPlayed_390 (by decide) ?_
        exact agr_zret hD12 hf rfl dL_isPlayed_394 rfl ⟨show kc + 125 + 310 + 0 ≤ 435 by omega, show ks + 750 + 1860 + 0 ≤ 2610 by omega⟩
def gL_isPlayed_293 (lo t Ls : Nat) (xs : Nat → Int32) (K : Int32 → TH → MS → Prop) (h : TH) (L : MS) (a10 : Int32) (a11 : Int32) (a12 : Int32) (a13 : Int32) (a18 : Int32) : Prop :=
  (if a18 < 0 then gL_isPlayed_352 lo t Ls xs K h L a10 a11 a12 a13 a18 else (xin (m_I L 7 (2 : Int32).toNatClampNeg) 64 = true ∧ (∃ W3, (ms_J L 0 (m_I L 7 (2 : Int32).toNatClampNeg).toNatClampNeg (m_J L 10 (0 : Int32).toNatClampNeg)) = W3 ∧ (xin (m_I W3 7 (2 : Int32).toNatClampNeg) 64 = true ∧ (∃ W5, (ms_J W3 1 (m_I W3 7 (2 : Int32).toNatClampNeg).toNatClampNeg (m_J W3 10 (1 : Int32).toNatClampNeg)) = W5 ∧ (xin (m_I W5 7 (2 : Int32).toNatClampNeg) 64 = true ∧ (∃ W7, (ms_I W5 2 (m_I W5 7 (2 : Int32).toNatClampNeg).toNatClampNeg a10) = W7 ∧ (∃ W8, (ms_I W7 7 (2 : Int32).toNatClampNeg ((m_I W7 7 (2 : Int32).toNatClampNeg) + (1 : Int32))) = W8 ∧ (xin a10 48 = true ∧ (∃ W10, (ms_I W8 6 a10.toNatClampNeg ((m_I W8 6 a10.toNatClampNeg) + (1 : Int32))) = W10 ∧ (xin ((16 : Int32) + a10) 48 = true ∧ gL_isPlayed_352 lo t Ls xs K h (ms_I W10 6 ((16 : Int32) + a10).toNatClampNeg (0 : Int32)) a10 a11 a12 a13 a18)))))))))))
set_option maxHeartbeats 4000000 in
set_option maxRecDepth 100000 in
theorem wkL_isPlayed_293 {l : Launch} {g : xG} {x0 : xV} {b lo t Ls : Nat} {xs : Nat → Int32} {K : Int32 → TH → MS → Prop} {kc ks : Nat} (hl : l.stackTraces = false) (hb : b + 8 < lo) (hb0 : b < x0.1 ∧ x0.2 b = none) (h : TH) (L : MS) (a10 : Int32) (a11 : Int32) (a12 : Int32) (a13 : Int32) (a18 : Int32) (hD : LDp lo h) (hc : kc + (435) ≤ 435 ∧ ks + (2610) ≤ 2610) (hf : gL_isPlayed_293 lo t Ls xs K h L a10 a11 a12 a13 a18) : AWG (XS b Ls xs) (zR rmL_isPlayed g lo x0 K) ML_isPlayed rmL_isPlayed l g x0 kc ks (LW g lo h L) 293 [(0, va_rf (some t)), (1, .ref (lo + 0)), (2, .ref (lo + 1)), (3, .ref (lo + 2)), (7, .ref (lo + 6)), (8, .ref (lo + 7)), (9, .ref (lo + 10)), (10, .int a10), (11, .int a11), (12, .int a12), (13, .int a13), (18, .int a18)] [] := by
  rw [gL_isPlayed_293] at hf
  refine ag_iload 11 dL_isPlayed_293 rfl ?_
  refine ag_if_lt 352 dL_isPlayed_295 (by decide) (fun c1 => ?_) (fun c1 => ?_)
  · rw [if_pos c1] at hf
    refine ag_lv [0, 1, 2, 3, 5, 7, 8, 9, 10, 11] rfl ?_
    exact wkL_isPlayed_352 hl hb hb0 _ _ _ _ _ _ _ hD ⟨show kc + (435) ≤ 435 by omega, show ks + (2610) ≤ 2610 by omega⟩ hf
  · rw [if_neg c1] at hf
    refine ag_aload_n 1 dL_isPlayed_298 rfl ?_
    refine ag_aload 5 dL_isPlayed_299 rfl ?_
    refine ag_iconst (2 : Int32) dL_isPlayed_301 (by decide) ?_
    refine ar_iald 7 5 hD rfl (by decide) (xin_v (by decide)) dL_isPlayed_302 ?_
    refine ag_aload 6 dL_isPlayed_303 rfl ?_
    refine ag_iconst (0 : Int32) dL_isPlayed_305 (by decide) ?_
    refine ar_lald 10 2 hD rfl (by decide) (xin_v (by decide)) dL_isPlayed_306 ?_
    obtain ⟨hi2, hf⟩ := hf
    obtain ⟨W3, hW3, hf⟩ := hf
    refine ar_last 0 64 hD rfl (by decide) (xin_v hi2) dL_isPlayed_307 ?_
    rw [hW3]
    refine ag_aload_n 2 dL_isPlayed_308 rfl ?_
    refine ag_aload 5 dL_isPlayed_309 rfl ?_
    refine ag_iconst (2 : Int32) dL_isPlayed_311 (by decide) ?_
    refine ar_iald 7 5 hD rfl (by decide) (xin_v (by decide)) dL_isPlayed_312 ?_
    refine ag_aload 6 dL_isPlayed_313 rfl ?_
    refine ag_iconst (1 : Int32) dL_isPlayed_315 (by decide) ?_
    refine ar_lald 10 2 hD rfl (by decide) (xin_v (by decide)) dL_isPlayed_316 ?_
    obtain ⟨hi4, hf⟩ := hf
    obtain ⟨W5, hW5, hf⟩ := hf
    refine ar_last 1 64 hD rfl (by decide) (xin_v hi4) dL_isPlayed_317 ?_
    rw [hW5]
    refine ag_aload_n 3 dL_isPlayed_318 rfl ?_
    refine ag_aload 5 dL_isPlayed_319 rfl ?_
    refine ag_iconst (2 : Int32) dL_isPlayed_321 (by decide) ?_
    refine ar_iald 7 5 hD rfl (by decide) (xin_v (by decide)) dL_isPlayed_322 ?_
    refine ag_iload 7 dL_isPlayed_323 rfl ?_
    obtain ⟨hi6, hf⟩ := hf
    obtain ⟨W7, hW7, hf⟩ := hf
    refine ar_iast 2 64 hD rfl (by decide) (xin_v hi6) dL_isPlayed_325 ?_
    rw [hW7]
    refine ag_aload 5 dL_isPlayed_326 rfl ?_
    refine ag_iconst (2 : Int32) dL_isPlayed_328 (by decide) ?_
    refine ag_dup2 dL_isPlayed_329 rfl rfl ?_
    refine ar_iald 7 5 hD rfl (by decide) (xin_v (by decide)) dL_isPlayed_330 ?_
    refine ag_iconst (1 : Int32) dL_isPlayed_331 (by decide) ?_
    refine ag_iadd dL_isPlayed_332 ?_
    obtain ⟨W8, hW8, hf⟩ := hf
    refine ar_iast 7 5 hD rfl (by decide) (xin_v (by decide)) dL_isPlayed_333 ?_
    rw [hW8]
    refine ag_aload 4 dL_isPlayed_334 rfl ?_
    refine ag_iload 7 dL_isPlayed_336 rfl ?_
    refine ag_dup2 dL_isPlayed_338 rfl rfl ?_
    obtain ⟨hi9, hf⟩ := hf
    refine ar_iald 6 48 hD rfl (by decide) (xin_v hi9) dL_isPlayed_339 ?_
    refine ag_iconst (1 : Int32) dL_isPlayed_340 (by decide) ?_
    refine ag_iadd dL_isPlayed_341 ?_
    obtain ⟨W10, hW10, hf⟩ := hf
    refine ar_iast 6 48 hD rfl (by decide) (xin_v hi9) dL_isPlayed_342 ?_
    rw [hW10]
    refine ag_aload 4 dL_isPlayed_343 rfl ?_
    refine ag_bipush (16 : Int32) dL_isPlayed_345 (by decide) ?_
    refine ag_iload 7 dL_isPlayed_347 rfl ?_
    refine ag_iadd dL_isPlayed_349 ?_
    refine ag_iconst (0 : Int32) dL_isPlayed_350 (by decide) ?_
    obtain ⟨hi11, hf⟩ := hf
    refine ar_iast 6 48 hD rfl (by decide) (xin_v hi11) dL_isPlayed_351 ?_
    refine ag_lv [0, 1, 2, 3, 5, 7, 8, 9, 10, 11] rfl ?_
    exact wkL_isPlayed_352 hl hb hb0 _ _ _ _ _ _ _ hD ⟨show kc + (435) ≤ 435 by omega, show ks + (2610) ≤ 2610 by omega⟩ hf
def gL_isPlayed_249 (lo t Ls : Nat) (xs : Nat → Int32) (K : Int32 → TH → MS → Prop) (h : TH) (L : MS) (a10 : Int32) (a11 : Int32) (a12 : Int32) (a13 : Int32) (a15 : Int32) (s0 : Int32) : Prop :=
  (if s0 < 0 then gL_isPlayed_293 lo t Ls xs K h L a10 a11 a12 a13 s0 else (∃ q2, fL_runsOut L a10 a15 a12 = some q2 ∧ (if q2.1 = false then gL_isPlayed_293 lo t Ls xs K h q2.2 a10 a11 a12 a13 s0 else (∃ q4, fL_ends q2.2 a10 ((1 : Int32) - a15) = some q4 ∧ gL_isPlayed_352 lo t Ls xs K h q4 a10 a11 a12 a13 (-1 : Int32)))))
set_option maxHeartbeats 4000000 in
set_option maxRecDepth 100000 in
theorem wkL_isPlayed_249 {l : Launch} {g : xG} {x0 : xV} {b lo t Ls : Nat} {xs : Nat → Int32} {K : Int32 → TH → MS → Prop} {kc ks : Nat} (hl : l.stackTraces = false) (hb : b + 8 < lo) (hb0 : b < x0.1 ∧ x0.2 b = none) (h : TH) (L : MS) (a10 : Int32) (a11 : Int32) (a12 : Int32) (a13 : Int32) (a15 : Int32) (s0 : Int32) (hD : LDp lo h) (hc : kc + (435) ≤ 435 ∧ ks + (2610) ≤ 2610) (hf : gL_isPlayed_249 lo t Ls xs K h L a10 a11 a12 a13 a15 s0) : AWG (XS b Ls xs) (zR rmL_isPlayed g lo x0 K) ML_isPlayed rmL_isPlayed l g x0 kc ks (LW g lo h L) 249 [(0, va_rf (some t)), (1, .ref (lo + 0)), (2, .ref (lo + 1)), (3, .ref (lo + 2)), (4, .ref (lo + 3)), (5, .ref (lo + 4)), (6, .ref (lo + 5)), (7, .ref (lo + 6)), (8, .ref (lo + 7)), (9, .ref (lo + 10)), (10, .int a10), (11, .int a11), (12, .int a12), (13, .int a13), (15, .int a15)] [.int s0] := by
  rw [gL_isPlayed_249] at hf
  refine ag_istore [(18, .int s0), (0, va_rf (some t)), (1, .ref (lo + 0)), (2, .ref (lo + 1)), (3, .ref (lo + 2)), (4, .ref (lo + 3)), (5, .ref (lo + 4)), (6, .ref (lo + 5)), (7, .ref (lo + 6)), (8, .ref (lo + 7)), (9, .ref (lo + 10)), (10, .int a10), (11, .int a11), (12, .int a12), (13, .int a13), (15, .int a15)] dL_isPlayed_249 (by decide) rfl ?_
  refine ag_iload 0 dL_isPlayed_251 rfl ?_
  refine ag_if_lt 293 dL_isPlayed_253 (by decide) (fun c1 => ?_) (fun c1 => ?_)
  · rw [if_pos c1] at hf
    refine ag_lv [1, 2, 3, 4, 8, 9, 10, 11, 12, 13, 14, 0] rfl ?_
    exact wkL_isPlayed_293 hl hb hb0 _ _ _ _ _ _ _ hD ⟨show kc + (435) ≤ 435 by omega, show ks + (2610) ≤ 2610 by omega⟩ hf
  · rw [if_neg c1] at hf
    refine ag_aload 7 dL_isPlayed_256 rfl ?_
    refine ag_iload 11 dL_isPlayed_258 rfl ?_
    refine ag_iload 15 dL_isPlayed_260 rfl ?_
    refine ag_iload 13 dL_isPlayed_262 rfl ?_
    obtain ⟨q2, hq2, hf⟩ := hf
    refine ag_callS [.ref (lo + 5), .int a10, .int a15, .int a12] 4 (ctA hD (ctL_runsOut hl _ _ _ _ hq2)) ⟨wl4 (i := 90) rfl rfl, ciL_runsOut⟩ (wl4 (i := 91) rfl rfl) dL_isPlayed_264 rfl rfl (Nat.le_of_ble_eq_true rfl) ⟨Nat.le_of_ble_eq_true rfl, Nat.le_of_ble_eq_true rfl⟩ ⟨show kc + 0 + 0 ≤ 435 by omega, show ks + 0 + 0 ≤ 2610 by omega⟩ (fun _ => ?_)
    refine ag_ifb_eq 293 dL_isPlayed_267 (by decide) (fun c3 => ?_) (fun c3 => ?_)
    · rw [if_pos c3] at hf
      refine ag_lv [1, 2, 3, 4, 8, 9, 10, 11, 12, 13, 14, 0] rfl ?_
      exact wkL_isPlayed_293 hl hb hb0 _ _ _ _ _ _ _ hD ⟨show kc + 0 + (435) ≤ 435 by omega, show ks + 0 + (2610) ≤ 2610 by omega⟩ hf
    · rw [if_neg c3] at hf
      refine ag_aload 5 dL_isPlayed_270 rfl ?_
      refine ag_aload 6 dL_isPlayed_272 rfl ?_
      refine ag_aload 8 dL_isPlayed_274 rfl ?_
      refine ag_aload 9 dL_isPlayed_276 rfl ?_
      refine ag_iload 11 dL_isPlayed_278 rfl ?_
      refine ag_iconst (1 : Int32) dL_isPlayed_280 (by decide) ?_
      refine ag_iload 15 dL_isPlayed_281 rfl ?_
      refine ag_isub dL_isPlayed_283 ?_
      obtain ⟨q4, hq4, hf⟩ := hf
      refine ag_callS [.ref (lo + 3), .ref (lo + 4), .ref (lo + 6), .ref (lo + 7), .int a10, .int ((1 : Int32) - a15)] 6 (ctA hD (ctL_ends hl _ _ _ hq4)) ⟨wl4 (i := 93) rfl rfl, ciL_ends⟩ (wl4 (i := 94) rfl rfl) dL_isPlayed_284 rfl rfl (Nat.le_of_ble_eq_true rfl) ⟨Nat.le_of_ble_eq_true rfl, Nat.le_of_ble_eq_true rfl⟩ ⟨show kc + 0 + 0 + 0 ≤ 435 by omega, show ks + 0 + 0 + 0 ≤ 2610 by omega⟩ (fun _ => ?_)
      refine ag_iconst (-1 : Int32) dL_isPlayed_287 (by decide) ?_
      refine ag_istore [(18, .int (-1 : Int32)), (0, va_rf (some t)), (1, .ref (lo + 0)), (2, .ref (lo + 1)), (3, .ref (lo + 2)), (4, .ref (lo + 3)), (5, .ref (lo + 4)), (6, .ref (lo + 5)), (7, .ref (lo + 6)), (8, .ref (lo + 7)), (9, .ref (lo + 10)), (10, .int a10), (11, .int a11), (12, .int a12), (13, .int a13), (15, .int a15)] dL_isPlayed_288 (by decide) rfl ?_
      refine ag_goto 352 dL_isPlayed_290 (by decide) ?_
      refine ag_lv [1, 2, 3, 4, 9, 11, 12, 13, 14, 0] rfl ?_
      exact wkL_isPlayed_352 hl hb hb0 _ _ _ _ _ _ _ hD ⟨show kc + 0 + 0 + (435) ≤ 435 by omega, show ks + 0 + 0 + (2610) ≤ 2610 by omega⟩ hf
def gL_isPlayed_212 (lo t Ls : Nat) (xs : Nat → Int32) (K : Int32 → TH → MS → Prop) (h : TH) (L : MS) (a10 : Int32) (a11 : Int32) (a12 : Int32) (a13 : Int32) (a15 : Int32) (a16 : Int32) (a17 : Int32) : Prop :=
  (if a13 = 0 then gL_isPlayed_249 lo t Ls xs K h L a10 a11 a12 a13 a15 (-300 : Int32) else (if a12 ≤ (1000 : Int32) then (if a16 = 0 then gL_isPlayed_249 lo t Ls xs K h L a10 a11 a12 a13 a15 (-100 : Int32) else gL_isPlayed_249 lo t Ls xs K h L a10 a11 a12 a13 a15 a17) else gL_isPlayed_249 lo t Ls xs K h L a10 a11 a12 a13 a15 (-200 : Int32)))
set_option maxHeartbeats 4000000 in
set_option maxRecDepth 100000 in
theorem wkL_isPlayed_212 {l : Launch} {g : xG} {x0 : xV} {b lo t Ls : Nat} {xs : Nat → Int32} {K : Int32 → TH → MS → Prop} {kc ks : Nat} (hl : l.stackTraces = false) (hb : b + 8 < lo) (hb0 : b < x0.1 ∧ x0.2 b = none) (h : TH) (L : MS) (a10 : Int32) (a11 : Int32) (a12 : Int32) (a13 : Int32) (a15 : Int32) (a16 : Int32) (a17 : Int32) (hD : LDp lo h) (hc : kc + (435) ≤ 435 ∧ ks + (2610) ≤ 2610) (hf : gL_isPlayed_212 lo t Ls xs K h L a10 a11 a12 a13 a15 a16 a17) : AWG (XS b Ls xs) (zR rmL_isPlayed g lo x0 K) ML_isPlayed rmL_isPlayed l g x0 kc ks (LW g lo h L) 212 [(0, va_rf (some t)), (1, .ref (lo + 0)), (2, .ref (lo + 1)), (3, .ref (lo + 2)), (4, .ref (lo + 3)), (5, .ref (lo + 4)), (6, .ref (lo + 5)), (7, .ref (lo + 6)), (8, .ref (lo + 7)), (9, .ref (lo + 10)), (10, .int a10), (11, .int a11), (12, .int a12), (13, .int a13), (15, .int a15), (16, .int a16), (17, .int a17)] [] := by
  rw [gL_isPlayed_212] at hf
  refine ag_iload 13 dL_isPlayed_212 rfl ?_
  refine ag_if_ne 223 dL_isPlayed_214 (by decide) (fun c1 => ?_) (fun c1 => ?_)
  · rw [if_neg c1] at hf
    refine ag_iload 12 dL_isPlayed_223 rfl ?_
    refine ag_sipush (1000 : Int32) dL_isPlayed_225 (by decide) ?_
    refine ag_icmp_le 237 dL_isPlayed_228 (by decide) (fun c2 => ?_) (fun c2 => ?_)
    · rw [if_pos c2] at hf
      refine ag_iload 15 dL_isPlayed_237 rfl ?_
      refine ag_if_eq 247 dL_isPlayed_239 (by decide) (fun c3 => ?_) (fun c3 => ?_)
      · rw [if_pos c3] at hf
        refine ag_bipush (-100 : Int32) dL_isPlayed_247 (by decide) ?_
        refine ag_lv [0, 1, 2, 3, 4, 5, 6, 7, 8, 9, 10, 11, 12, 13, 14] rfl ?_
        exact wkL_isPlayed_249 hl hb hb0 _ _ _ _ _ _ _ _ hD ⟨show kc + (435) ≤ 435 by omega, show ks + (2610) ≤ 2610 by omega⟩ hf
      · rw [if_neg c3] at hf
        refine ag_iload 16 dL_isPlayed_242 rfl ?_
        refine ag_goto 249 dL_isPlayed_244 (by decide) ?_
        refine ag_lv [0, 1, 2, 3, 4, 5, 6, 7, 8, 9, 10, 11, 12, 13, 14] rfl ?_
        exact wkL_isPlayed_249 hl hb hb0 _ _ _ _ _ _ _ _ hD ⟨show kc + (435) ≤ 435 by omega, show ks + (2610) ≤ 2610 by omega⟩ hf
    · rw [if_neg c2] at hf
      refine ag_sipush (-200 : Int32) dL_isPlayed_231 (by decide) ?_
      refine ag_goto 249 dL_isPlayed_234 (by decide) ?_
      refine ag_lv [0, 1, 2, 3, 4, 5, 6, 7, 8, 9, 10, 11, 12, 13, 14] rfl ?_
      exact wkL_isPlayed_249 hl hb hb0 _ _ _ _ _ _ _ _ hD ⟨show kc + (435) ≤ 435 by omega, show ks + (2610) ≤ 2610 by omega⟩ hf
  · rw [if_pos c1] at hf
    refine ag_sipush (-300 : Int32) dL_isPlayed_217 (by decide) ?_
    refine ag_goto 249 dL_isPlayed_220 (by decide) ?_
    refine ag_lv [0, 1, 2, 3, 4, 5, 6, 7, 8, 9, 10, 11, 12, 13, 14] rfl ?_
    exact wkL_isPlayed_249 hl hb hb0 _ _ _ _ _ _ _ _ hD ⟨show kc + (435) ≤ 435 by omega, show ks + (2610) ≤ 2610 by omega⟩ hf
def gL_isPlayed_204 (lo t Ls : Nat) (xs : Nat → Int32) (K : Int32 → TH → MS → Prop) (k152 : TH → MS → Int32 → Int32 → Int32 → Int32 → Int32 → Int32 → Int32 → Int32 → Prop) (h : TH) (L : MS) (a10 : Int32) (a11 : Int32) (a12 : Int32) (a13 : Int32) (a15 : Int32) (a17 : Int32) (a18 : Int32) (s0 : Int32) : Prop :=
  k152 h L a10 a11 a12 a13 a15 s0 a17 (a18 + (1 : Int32))
set_option maxHeartbeats 4000000 in
set_option maxRecDepth 100000 in
theorem wkL_isPlayed_204 {l : Launch} {g : xG} {x0 : xV} {b lo t Ls : Nat} {xs : Nat → Int32} {K : Int32 → TH → MS → Prop} {kc ks : Nat} (hl : l.stackTraces = false) (hb : b + 8 < lo) (hb0 : b < x0.1 ∧ x0.2 b = none) (k152 : TH → MS → Int32 → Int32 → Int32 → Int32 → Int32 → Int32 → Int32 → Int32 → Prop) (hk152 : ∀ (kc ks : Nat) (h : TH) (L : MS) (a10 : Int32) (a11 : Int32) (a12 : Int32) (a13 : Int32) (a15 : Int32) (a16 : Int32) (a17 : Int32) (a18 : Int32), LDp lo h → (kc + (435) ≤ 435 ∧ ks + (2610) ≤ 2610) → k152 h L a10 a11 a12 a13 a15 a16 a17 a18 → AWG (XS b Ls xs) (zR rmL_isPlayed g lo x0 K) ML_isPlayed rmL_isPlayed l g x0 kc ks (LW g lo h L) 152 [(0, va_rf (some t)), (1, .ref (lo + 0)), (2, .ref (lo + 1)), (3, .ref (lo + 2)), (4, .ref (lo + 3)), (5, .ref (lo + 4)), (6, .ref (lo + 5)), (7, .ref (lo + 6)), (8, .ref (lo + 7)), (9, .ref (lo + 10)), (10, .int a10), (11, .int a11), (12, .int a12), (13, .int a13), (15, .int a15), (16, .int a16), (17, .int a17), (18, .int a18)] []) (h : TH) (L : MS) (a10 : Int32) (a11 : Int32) (a12 : Int32) (a13 : Int32) (a15 : Int32) (a17 : Int32) (a18 : Int32) (s0 : Int32) (hD : LDp lo h) (hc : kc + (435) ≤ 435 ∧ ks + (2610) ≤ 2610) (hf : gL_isPlayed_204 lo t Ls xs K k152 h L a10 a11 a12 a13 a15 a17 a18 s0) : AWG (XS b Ls xs) (zR rmL_isPlayed g lo x0 K) ML_isPlayed rmL_isPlayed l g x0 kc ks (LW g lo h L) 204 [(0, va_rf (some t)), (1, .ref (lo + 0)), (2, .ref (lo + 1)), (3, .ref (lo + 2)), (4, .ref (lo + 3)), (5, .ref (lo + 4)), (6, .ref (lo + 5)), (7, .ref (lo + 6)), (8, .ref (lo + 7)), (9, .ref (lo + 10)), (10, .int a10), (11, .int a11), (12, .int a12), (13, .int a13), (15, .int a15), (17, .int a17), (18, .int a18)] [.int s0] := by
  rw [gL_isPlayed_204] at hf
  refine ag_istore [(16, .int s0), (0, va_rf (some t)), (1, .ref (lo + 0)), (2, .ref (lo + 1)), (3, .ref (lo + 2)), (4, .ref (lo + 3)), (5, .ref (lo + 4)), (6, .ref (lo + 5)), (7, .ref (lo + 6)), (8, .ref (lo + 7)), (9, .ref (lo + 10)), (10, .int a10), (11, .int a11), (12, .int a12), (13, .int a13), (15, .int a15), (17, .int a17), (18, .int a18)] dL_isPlayed_204 (by decide) rfl ?_
  refine ag_iinc [(18, .int (a18 + (1 : Int32))), (16, .int s0), (0, va_rf (some t)), (1, .ref (lo + 0)), (2, .ref (lo + 1)), (3, .ref (lo + 2)), (4, .ref (lo + 3)), (5, .ref (lo + 4)), (6, .ref (lo + 5)), (7, .ref (lo + 6)), (8, .ref (lo + 7)), (9, .ref (lo + 10)), (10, .int a10), (11, .int a11), (12, .int a12), (13, .int a13), (15, .int a15), (17, .int a17)] 17 dL_isPlayed_206 rfl rfl (by decide) rfl ?_
  refine ag_goto 152 dL_isPlayed_209 (by decide) ?_
  refine ag_lv [2, 3, 4, 5, 6, 7, 8, 9, 10, 11, 12, 13, 14, 15, 16, 1, 17, 0] rfl ?_
  exact hk152 _ _ _ _ _ _ _ _ _ _ _ _ hD ⟨show kc + (435) ≤ 435 by omega, show ks + (2610) ≤ 2610 by omega⟩ hf
def gL_isPlayed_152 (lo t Ls : Nat) (xs : Nat → Int32) (K : Int32 → TH → MS → Prop) : Nat → TH → MS → Int32 → Int32 → Int32 → Int32 → Int32 → Int32 → Int32 → Int32 → Prop
  | 0, _, _, _, _, _, _, _, _, _, _ => False
  | n + 1, h, L, a10, a11, a12, a13, a15, a16, a17, a18 =>
    (if (m_I L 7 (2 : Int32).toNatClampNeg) ≤ a18 then gL_isPlayed_212 lo t Ls xs K h L a10 a11 a12 a13 a15 a16 a17 else (if a16 = 0 then gL_isPlayed_212 lo t Ls xs K h L a10 a11 a12 a13 a15 a16 a17 else (xin a18 64 = true ∧ (if (m_I L 2 a18.toNatClampNeg) = a10 then (if (m_J L 0 a18.toNatClampNeg) = (m_J L 10 (0 : Int32).toNatClampNeg) then (if (m_J L 1 a18.toNatClampNeg) = (m_J L 10 (1 : Int32).toNatClampNeg) then gL_isPlayed_204 lo t Ls xs K (gL_isPlayed_152 lo t Ls xs K n) h L a10 a11 a12 a13 a15 a17 a18 (0 : Int32) else gL_isPlayed_204 lo t Ls xs K (gL_isPlayed_152 lo t Ls xs K n) h L a10 a11 a12 a13 a15 a17 a18 (1 : Int32)) else gL_isPlayed_204 lo t Ls xs K (gL_isPlayed_152 lo t Ls xs K n) h L a10 a11 a12 a13 a15 a17 a18 (1 : Int32)) else gL_isPlayed_204 lo t Ls xs K (gL_isPlayed_152 lo t Ls xs K n) h L a10 a11 a12 a13 a15 a17 a18 (1 : Int32)))))
set_option maxHeartbeats 4000000 in
set_option maxRecDepth 100000 in
theorem wkL_isPlayed_152 {l : Launch} {g : xG} {x0 : xV} {b lo t Ls : Nat} {xs : Nat → Int32} {K : Int32 → TH → MS → Prop} (hl : l.stackTraces = false) (hb : b + 8 < lo) (hb0 : b < x0.1 ∧ x0.2 b = none) : ∀ (n kc ks : Nat) (h : TH) (L : MS) (a10 : Int32) (a11 : Int32) (a12 : Int32) (a13 : Int32) (a15 : Int32) (a16 : Int32) (a17 : Int32) (a18 : Int32), LDp lo h → (kc + (435) ≤ 435 ∧ ks + (2610) ≤ 2610) → gL_isPlayed_152 lo t Ls xs K n h L a10 a11 a12 a13 a15 a16 a17 a18 → AWG (XS b Ls xs) (zR rmL_isPlayed g lo x0 K) ML_isPlayed rmL_isPlayed l g x0 kc ks (LW g lo h L) 152 [(0, va_rf (some t)), (1, .ref (lo + 0)), (2, .ref (lo + 1)), (3, .ref (lo + 2)), (4, .ref (lo + 3)), (5, .ref (lo + 4)), (6, .ref (lo + 5)), (7, .ref (lo + 6)), (8, .ref (lo + 7)), (9, .ref (lo + 10)), (10, .int a10), (11, .int a11), (12, .int a12), (13, .int a13), (15, .int a15), (16, .int a16), (17, .int a17), (18, .int a18)] [] := by
  intro n
  induction n with
  | zero => intro kc ks h L a10 a11 a12 a13 a15 a16 a17 a18 hD hc hf; exact absurd hf (by simp [gL_isPlayed_152])
  | succ n hk152 =>
    intro kc ks h L a10 a11 a12 a13 a15 a16 a17 a18 hD hc hf
    rw [gL_isPlayed_152] at hf
    refine ag_iload 17 dL_isPlayed_152 rfl ?_
    refine ag_aload 8 dL_isPlayed_154 rfl ?_
    refine ag_iconst (2 : Int32) dL_isPlayed_156 (by decide) ?_
    refine ar_iald 7 5 hD rfl (by decide) (xin_v (by decide)) dL_isPlayed_157 ?_
    refine ag_icmp_ge 212 dL_isPlayed_158 (by decide) (fun c1 => ?_) (fun c1 => ?_)
    · rw [if_pos c1] at hf
      refine ag_lv [0, 1, 2, 3, 4, 5, 6, 7, 8, 9, 10, 11, 12, 13, 14, 15, 16] rfl ?_
      exact wkL_isPlayed_212 hl hb hb0 _ _ _ _ _ _ _ _ _ hD ⟨show kc + (435) ≤ 435 by omega, show ks + (2610) ≤ 2610 by omega⟩ hf
    · rw [if_neg c1] at hf
      refine ag_iload 15 dL_isPlayed_161 rfl ?_
      refine ag_if_eq 212 dL_isPlayed_163 (by decide) (fun c2 => ?_) (fun c2 => ?_)
      · rw [if_pos c2] at hf
        refine ag_lv [0, 1, 2, 3, 4, 5, 6, 7, 8, 9, 10, 11, 12, 13, 14, 15, 16] rfl ?_
        exact wkL_isPlayed_212 hl hb hb0 _ _ _ _ _ _ _ _ _ hD ⟨show kc + (435) ≤ 435 by omega, show ks + (2610) ≤ 2610 by omega⟩ hf
      · rw [if_neg c2] at hf
        refine ag_aload_n 3 dL_isPlayed_166 rfl ?_
        refine ag_iload 17 dL_isPlayed_167 rfl ?_
        obtain ⟨hi3, hf⟩ := hf
        refine ar_iald 2 64 hD rfl (by decide) (xin_v hi3) dL_isPlayed_169 ?_
        refine ag_iload 10 dL_isPlayed_170 rfl ?_
        refine ag_icmp_ne 199 dL_isPlayed_172 (by decide) (fun c4 => ?_) (fun c4 => ?_)
        · rw [if_neg c4] at hf
          refine ag_iconst (1 : Int32) dL_isPlayed_199 (by decide) ?_
          refine ag_goto 204 dL_isPlayed_200 (by decide) ?_
          refine ag_lv [0, 1, 2, 3, 4, 5, 6, 7, 8, 9, 10, 11, 12, 13, 14, 16, 17] rfl ?_
          exact wkL_isPlayed_204 hl hb hb0 _ hk152 _ _ _ _ _ _ _ _ _ _ hD ⟨show kc + (435) ≤ 435 by omega, show ks + (2610) ≤ 2610 by omega⟩ hf
        · rw [if_pos c4] at hf
          refine ag_aload_n 1 dL_isPlayed_175 rfl ?_
          refine ag_iload 17 dL_isPlayed_176 rfl ?_
          refine ar_lald 0 64 hD rfl (by decide) (xin_v hi3) dL_isPlayed_178 ?_
          refine ag_aload 9 dL_isPlayed_179 rfl ?_
          refine ag_iconst (0 : Int32) dL_isPlayed_181 (by decide) ?_
          refine ar_lald 10 2 hD rfl (by decide) (xin_v (by decide)) dL_isPlayed_182 ?_
          refine ag_lcmp_ne 199 dL_isPlayed_183 dL_isPlayed_184 (by decide) (fun c5 => ?_) (fun c5 => ?_)
          · rw [if_neg c5] at hf
            refine ag_iconst (1 : Int32) dL_isPlayed_199 (by decide) ?_
            refine ag_goto 204 dL_isPlayed_200 (by decide) ?_
            refine ag_lv [0, 1, 2, 3, 4, 5, 6, 7, 8, 9, 10, 11, 12, 13, 14, 16, 17] rfl ?_
            exact wkL_isPlayed_204 hl hb hb0 _ hk152 _ _ _ _ _ _ _ _ _ _ hD ⟨show kc + (435) ≤ 435 by omega, show ks + (2610) ≤ 2610 by omega⟩ hf
          · rw [if_pos c5] at hf
            refine ag_aload_n 2 dL_isPlayed_187 rfl ?_
            refine ag_iload 17 dL_isPlayed_188 rfl ?_
            refine ar_lald 1 64 hD rfl (by decide) (xin_v hi3) dL_isPlayed_190 ?_
            refine ag_aload 9 dL_isPlayed_191 rfl ?_
            refine ag_iconst (1 : Int32) dL_isPlayed_193 (by decide) ?_
            refine ar_lald 10 2 hD rfl (by decide) (xin_v (by decide)) dL_isPlayed_194 ?_
            refine ag_lcmp_eq 203 dL_isPlayed_195 dL_isPlayed_196 (by decide) (fun c6 => ?_) (fun c6 => ?_)
            · rw [if_pos c6] at hf
              refine ag_iconst (0 : Int32) dL_isPlayed_203 (by decide) ?_
              refine ag_lv [0, 1, 2, 3, 4, 5, 6, 7, 8, 9, 10, 11, 12, 13, 14, 16, 17] rfl ?_
              exact wkL_isPlayed_204 hl hb hb0 _ hk152 _ _ _ _ _ _ _ _ _ _ hD ⟨show kc + (435) ≤ 435 by omega, show ks + (2610) ≤ 2610 by omega⟩ hf
            · rw [if_neg c6] at hf
              refine ag_iconst (1 : Int32) dL_isPlayed_199 (by decide) ?_
              refine ag_goto 204 dL_isPlayed_200 (by decide) ?_
              refine ag_lv [0, 1, 2, 3, 4, 5, 6, 7, 8, 9, 10, 11, 12, 13, 14, 16, 17] rfl ?_
              exact wkL_isPlayed_204 hl hb hb0 _ hk152 _ _ _ _ _ _ _ _ _ _ hD ⟨show kc + (435) ≤ 435 by omega, show ks + (2610) ≤ 2610 by omega⟩ hf
def gL_isPlayed_147 (lo t Ls : Nat) (xs : Nat → Int32) (K : Int32 → TH → MS → Prop) (h : TH) (L : MS) (a10 : Int32) (a11 : Int32) (a12 : Int32) (a13 : Int32) (a15 : Int32) (a17 : Int32) (s0 : Int32) : Prop :=
  gL_isPlayed_152 lo t Ls xs K FU h L a10 a11 a12 a13 a15 s0 a17 (0 : Int32)
set_option maxHeartbeats 4000000 in
set_option maxRecDepth 100000 in
theorem wkL_isPlayed_147 {l : Launch} {g : xG} {x0 : xV} {b lo t Ls : Nat} {xs : Nat → Int32} {K : Int32 → TH → MS → Prop} {kc ks : Nat} (hl : l.stackTraces = false) (hb : b + 8 < lo) (hb0 : b < x0.1 ∧ x0.2 b = none) (h : TH) (L : MS) (a10 : Int32) (a11 : Int32) (a12 : Int32) (a13 : Int32) (a15 : Int32) (a17 : Int32) (s0 : Int32) (hD : LDp lo h) (hc : kc + (435) ≤ 435 ∧ ks + (2610) ≤ 2610) (hf : gL_isPlayed_147 lo t Ls xs K h L a10 a11 a12 a13 a15 a17 s0) : AWG (XS b Ls xs) (zR rmL_isPlayed g lo x0 K) ML_isPlayed rmL_isPlayed l g x0 kc ks (LW g lo h L) 147 [(0, va_rf (some t)), (1, .ref (lo + 0)), (2, .ref (lo + 1)), (3, .ref (lo + 2)), (4, .ref (lo + 3)), (5, .ref (lo + 4)), (6, .ref (lo + 5)), (7, .ref (lo + 6)), (8, .ref (lo + 7)), (9, .ref (lo + 10)), (10, .int a10), (11, .int a11), (12, .int a12), (13, .int a13), (15, .int a15), (17, .int a17)] [.int s0] := by
  rw [gL_isPlayed_147] at hf
  refine ag_istore [(16, .int s0), (0, va_rf (some t)), (1, .ref (lo + 0)), (2, .ref (lo + 1)), (3, .ref (lo + 2)), (4, .ref (lo + 3)), (5, .ref (lo + 4)), (6, .ref (lo + 5)), (7, .ref (lo + 6)), (8, .ref (lo + 7)), (9, .ref (lo + 10)), (10, .int a10), (11, .int a11), (12, .int a12), (13, .int a13), (15, .int a15), (17, .int a17)] dL_isPlayed_147 (by decide) rfl ?_
  refine ag_iconst (0 : Int32) dL_isPlayed_149 (by decide) ?_
  refine ag_istore [(18, .int (0 : Int32)), (16, .int s0), (0, va_rf (some t)), (1, .ref (lo + 0)), (2, .ref (lo + 1)), (3, .ref (lo + 2)), (4, .ref (lo + 3)), (5, .ref (lo + 4)), (6, .ref (lo + 5)), (7, .ref (lo + 6)), (8, .ref (lo + 7)), (9, .ref (lo + 10)), (10, .int a10), (11, .int a11), (12, .int a12), (13, .int a13), (15, .int a15), (17, .int a17)] dL_isPlayed_150 (by decide) rfl ?_
  refine ag_lv [2, 3, 4, 5, 6, 7, 8, 9, 10, 11, 12, 13, 14, 15, 16, 1, 17, 0] rfl ?_
  exact wkL_isPlayed_152 hl hb hb0 _ _ _ _ _ _ _ _ _ _ _ _ _ hD ⟨show kc + (435) ≤ 435 by omega, show ks + (2610) ≤ 2610 by omega⟩ hf
def gL_isPlayed_130 (lo t Ls : Nat) (xs : Nat → Int32) (K : Int32 → TH → MS → Prop) (h : TH) (L : MS) (a10 : Int32) (a11 : Int32) (a12 : Int32) (a13 : Int32) (a15 : Int32) (a16 : Int32) (s0 : Int32) : Prop :=
  (if a16 = 0 then gL_isPlayed_147 lo t Ls xs K h L a10 a11 a12 a13 a15 s0 (0 : Int32) else (if s0 < 0 then gL_isPlayed_147 lo t Ls xs K h L a10 a11 a12 a13 a15 s0 (0 : Int32) else gL_isPlayed_147 lo t Ls xs K h L a10 a11 a12 a13 a15 s0 (1 : Int32)))
set_option maxHeartbeats 4000000 in
set_option maxRecDepth 100000 in
theorem wkL_isPlayed_130 {l : Launch} {g : xG} {x0 : xV} {b lo t Ls : Nat} {xs : Nat → Int32} {K : Int32 → TH → MS → Prop} {kc ks : Nat} (hl : l.stackTraces = false) (hb : b + 8 < lo) (hb0 : b < x0.1 ∧ x0.2 b = none) (h : TH) (L : MS) (a10 : Int32) (a11 : Int32) (a12 : Int32) (a13 : Int32) (a15 : Int32) (a16 : Int32) (s0 : Int32) (hD : LDp lo h) (hc : kc + (435) ≤ 435 ∧ ks + (2610) ≤ 2610) (hf : gL_isPlayed_130 lo t Ls xs K h L a10 a11 a12 a13 a15 a16 s0) : AWG (XS b Ls xs) (zR rmL_isPlayed g lo x0 K) ML_isPlayed rmL_isPlayed l g x0 kc ks (LW g lo h L) 130 [(0, va_rf (some t)), (1, .ref (lo + 0)), (2, .ref (lo + 1)), (3, .ref (lo + 2)), (4, .ref (lo + 3)), (5, .ref (lo + 4)), (6, .ref (lo + 5)), (7, .ref (lo + 6)), (8, .ref (lo + 7)), (9, .ref (lo + 10)), (10, .int a10), (11, .int a11), (12, .int a12), (13, .int a13), (15, .int a15), (16, .int a16)] [.int s0] := by
  rw [gL_isPlayed_130] at hf
  refine ag_istore [(17, .int s0), (0, va_rf (some t)), (1, .ref (lo + 0)), (2, .ref (lo + 1)), (3, .ref (lo + 2)), (4, .ref (lo + 3)), (5, .ref (lo + 4)), (6, .ref (lo + 5)), (7, .ref (lo + 6)), (8, .ref (lo + 7)), (9, .ref (lo + 10)), (10, .int a10), (11, .int a11), (12, .int a12), (13, .int a13), (15, .int a15), (16, .int a16)] dL_isPlayed_130 (by decide) rfl ?_
  refine ag_iload 16 dL_isPlayed_132 rfl ?_
  refine ag_if_eq 146 dL_isPlayed_134 (by decide) (fun c1 => ?_) (fun c1 => ?_)
  · rw [if_pos c1] at hf
    refine ag_iconst (0 : Int32) dL_isPlayed_146 (by decide) ?_
    refine ag_lv [1, 2, 3, 4, 5, 6, 7, 8, 9, 10, 11, 12, 13, 14, 15, 0] rfl ?_
    exact wkL_isPlayed_147 hl hb hb0 _ _ _ _ _ _ _ _ _ hD ⟨show kc + (435) ≤ 435 by omega, show ks + (2610) ≤ 2610 by omega⟩ hf
  · rw [if_neg c1] at hf
    refine ag_iload 0 dL_isPlayed_137 rfl ?_
    refine ag_if_lt 146 dL_isPlayed_139 (by decide) (fun c2 => ?_) (fun c2 => ?_)
    · rw [if_pos c2] at hf
      refine ag_iconst (0 : Int32) dL_isPlayed_146 (by decide) ?_
      refine ag_lv [1, 2, 3, 4, 5, 6, 7, 8, 9, 10, 11, 12, 13, 14, 15, 0] rfl ?_
      exact wkL_isPlayed_147 hl hb hb0 _ _ _ _ _ _ _ _ _ hD ⟨show kc + (435) ≤ 435 by omega, show ks + (2610) ≤ 2610 by omega⟩ hf
    · rw [if_neg c2] at hf
      refine ag_iconst (1 : Int32) dL_isPlayed_142 (by decide) ?_
      refine ag_goto 147 dL_isPlayed_143 (by decide) ?_
      refine ag_lv [1, 2, 3, 4, 5, 6, 7, 8, 9, 10, 11, 12, 13, 14, 15, 0] rfl ?_
      exact wkL_isPlayed_147 hl hb hb0 _ _ _ _ _ _ _ _ _ hD ⟨show kc + (435) ≤ 435 by omega, show ks + (2610) ≤ 2610 by omega⟩ hf
def gL_isPlayed_102 (lo t Ls : Nat) (xs : Nat → Int32) (K : Int32 → TH → MS → Prop) (h : TH) (L : MS) (a10 : Int32) (a11 : Int32) (a12 : Int32) (a13 : Int32) (a14 : Int32) (a15 : Int32) (s0 : Int32) : Prop :=
  (if s0 = 0 then gL_isPlayed_130 lo t Ls xs K h L a10 a11 a12 a13 a15 s0 (-1 : Int32) else (xin a14 64 = true ∧ (∃ q3, fL_puts L (m_J L 0 a14.toNatClampNeg) (m_J L 1 a14.toNatClampNeg) a15 a11 = some q3 ∧ gL_isPlayed_130 lo t Ls xs K h q3.2 a10 a11 a12 a13 a15 s0 q3.1)))
set_option maxHeartbeats 4000000 in
set_option maxRecDepth 100000 in
theorem wkL_isPlayed_102 {l : Launch} {g : xG} {x0 : xV} {b lo t Ls : Nat} {xs : Nat → Int32} {K : Int32 → TH → MS → Prop} {kc ks : Nat} (hl : l.stackTraces = false) (hb : b + 8 < lo) (hb0 : b < x0.1 ∧ x0.2 b = none) (h : TH) (L : MS) (a10 : Int32) (a11 : Int32) (a12 : Int32) (a13 : Int32) (a14 : Int32) (a15 : Int32) (s0 : Int32) (hD : LDp lo h) (hc : kc + (435) ≤ 435 ∧ ks + (2610) ≤ 2610) (hf : gL_isPlayed_102 lo t Ls xs K h L a10 a11 a12 a13 a14 a15 s0) : AWG (XS b Ls xs) (zR rmL_isPlayed g lo x0 K) ML_isPlayed rmL_isPlayed l g x0 kc ks (LW g lo h L) 102 [(0, va_rf (some t)), (1, .ref (lo + 0)), (2, .ref (lo + 1)), (3, .ref (lo + 2)), (4, .ref (lo + 3)), (5, .ref (lo + 4)), (6, .ref (lo + 5)), (7, .ref (lo + 6)), (8, .ref (lo + 7)), (9, .ref (lo + 10)), (10, .int a10), (11, .int a11), (12, .int a12), (13, .int a13), (14, .int a14), (15, .int a15)] [.int s0] := by
  rw [gL_isPlayed_102] at hf
  refine ag_istore [(16, .int s0), (0, va_rf (some t)), (1, .ref (lo + 0)), (2, .ref (lo + 1)), (3, .ref (lo + 2)), (4, .ref (lo + 3)), (5, .ref (lo + 4)), (6, .ref (lo + 5)), (7, .ref (lo + 6)), (8, .ref (lo + 7)), (9, .ref (lo + 10)), (10, .int a10), (11, .int a11), (12, .int a12), (13, .int a13), (14, .int a14), (15, .int a15)] dL_isPlayed_102 (by decide) rfl ?_
  refine ag_iload 0 dL_isPlayed_104 rfl ?_
  refine ag_if_eq 129 dL_isPlayed_106 (by decide) (fun c1 => ?_) (fun c1 => ?_)
  · rw [if_pos c1] at hf
    refine ag_iconst (-1 : Int32) dL_isPlayed_129 (by decide) ?_
    refine ag_lv [1, 2, 3, 4, 5, 6, 7, 8, 9, 10, 11, 12, 13, 14, 16, 0] rfl ?_
    exact wkL_isPlayed_130 hl hb hb0 _ _ _ _ _ _ _ _ _ hD ⟨show kc + (435) ≤ 435 by omega, show ks + (2610) ≤ 2610 by omega⟩ hf
  · rw [if_neg c1] at hf
    refine ag_aload_n 2 dL_isPlayed_109 rfl ?_
    refine ag_iload 15 dL_isPlayed_110 rfl ?_
    obtain ⟨hi2, hf⟩ := hf
    refine ar_lald 0 64 hD rfl (by decide) (xin_v hi2) dL_isPlayed_112 ?_
    refine ag_aload_n 3 dL_isPlayed_113 rfl ?_
    refine ag_iload 15 dL_isPlayed_114 rfl ?_
    refine ar_lald 1 64 hD rfl (by decide) (xin_v hi2) dL_isPlayed_116 ?_
    refine ag_iload 16 dL_isPlayed_117 rfl ?_
    refine ag_iload 12 dL_isPlayed_119 rfl ?_
    refine ag_aload 10 dL_isPlayed_121 rfl ?_
    obtain ⟨q3, hq3, hf⟩ := hf
    refine ag_callS [.long (m_J L 0 a14.toNatClampNeg), .long (m_J L 1 a14.toNatClampNeg), .int a15, .int a11, .ref (lo + 10)] 5 (ctA hD (ctL_puts hl _ _ _ _ _ hq3)) ⟨wl4 (i := 87) rfl rfl, ciL_puts⟩ (wl4 (i := 88) rfl rfl) dL_isPlayed_123 rfl rfl (Nat.le_of_ble_eq_true rfl) ⟨Nat.le_of_ble_eq_true rfl, Nat.le_of_ble_eq_true rfl⟩ ⟨show kc + 0 + 0 ≤ 435 by omega, show ks + 0 + 0 ≤ 2610 by omega⟩ (fun _ => ?_)
    refine ag_goto 130 dL_isPlayed_126 (by decide) ?_
    refine ag_lv [1, 2, 3, 4, 5, 6, 7, 8, 9, 10, 11, 12, 13, 14, 16, 0] rfl ?_
    exact wkL_isPlayed_130 hl hb hb0 _ _ _ _ _ _ _ _ _ hD ⟨show kc + 0 + (435) ≤ 435 by omega, show ks + 0 + (2610) ≤ 2610 by omega⟩ hf
def gL_isPlayed_60 (lo t Ls : Nat) (xs : Nat → Int32) (K : Int32 → TH → MS → Prop) (h : TH) (L : MS) (a10 : Int32) (a11 : Int32) (a12 : Int32) (a13 : Int32) (a14 : Int32) (s0 : Int32) : Prop :=
  (if a13 = 0 then gL_isPlayed_102 lo t Ls xs K h L a10 a11 a12 a13 a14 s0 (0 : Int32) else (xin ((32 : Int32) + a10) 64 = true ∧ (if (m_I L 4 ((32 : Int32) + a10).toNatClampNeg) = 0 then (xin a14 64 = true ∧ (if ((x_shr ((m_J L 0 a14.toNatClampNeg) ||| (m_J L 1 a14.toNatClampNeg)) a11) &&& (1 : Int64)) = (0 : Int64) then gL_isPlayed_102 lo t Ls xs K h L a10 a11 a12 a13 a14 s0 (1 : Int32) else gL_isPlayed_102 lo t Ls xs K h L a10 a11 a12 a13 a14 s0 (0 : Int32))) else gL_isPlayed_102 lo t Ls xs K h L a10 a11 a12 a13 a14 s0 (0 : Int32))))
set_option maxHeartbeats 4000000 in
set_option maxRecDepth 100000 in
theorem wkL_isPlayed_60 {l : Launch} {g : xG} {x0 : xV} {b lo t Ls : Nat} {xs : Nat → Int32} {K : Int32 → TH → MS → Prop} {kc ks : Nat} (hl : l.stackTraces = false) (hb : b + 8 < lo) (hb0 : b < x0.1 ∧ x0.2 b = none) (h : TH) (L : MS) (a10 : Int32) (a11 : Int32) (a12 : Int32) (a13 : Int32) (a14 : Int32) (s0 : Int32) (hD : LDp lo h) (hc : kc + (435) ≤ 435 ∧ ks + (2610) ≤ 2610) (hf : gL_isPlayed_60 lo t Ls xs K h L a10 a11 a12 a13 a14 s0) : AWG (XS b Ls xs) (zR rmL_isPlayed g lo x0 K) ML_isPlayed rmL_isPlayed l g x0 kc ks (LW g lo h L) 60 [(0, va_rf (some t)), (1, .ref (lo + 0)), (2, .ref (lo + 1)), (3, .ref (lo + 2)), (4, .ref (lo + 3)), (5, .ref (lo + 4)), (6, .ref (lo + 5)), (7, .ref (lo + 6)), (8, .ref (lo + 7)), (9, .ref (lo + 10)), (10, .int a10), (11, .int a11), (12, .int a12), (13, .int a13), (14, .int a14)] [.int s0] := by
  rw [gL_isPlayed_60] at hf
  refine ag_istore [(15, .int s0), (0, va_rf (some t)), (1, .ref (lo + 0)), (2, .ref (lo + 1)), (3, .ref (lo + 2)), (4, .ref (lo + 3)), (5, .ref (lo + 4)), (6, .ref (lo + 5)), (7, .ref (lo + 6)), (8, .ref (lo + 7)), (9, .ref (lo + 10)), (10, .int a10), (11, .int a11), (12, .int a12), (13, .int a13), (14, .int a14)] dL_isPlayed_60 (by decide) rfl ?_
  refine ag_iload 14 dL_isPlayed_62 rfl ?_
  refine ag_if_eq 101 dL_isPlayed_64 (by decide) (fun c1 => ?_) (fun c1 => ?_)
  · rw [if_pos c1] at hf
    refine ag_iconst (0 : Int32) dL_isPlayed_101 (by decide) ?_
    refine ag_lv [1, 2, 3, 4, 5, 6, 7, 8, 9, 10, 11, 12, 13, 14, 15, 0] rfl ?_
    exact wkL_isPlayed_102 hl hb hb0 _ _ _ _ _ _ _ _ _ hD ⟨show kc + (435) ≤ 435 by omega, show ks + (2610) ≤ 2610 by omega⟩ hf
  · rw [if_neg c1] at hf
    refine ag_aload 6 dL_isPlayed_67 rfl ?_
    refine ag_bipush (32 : Int32) dL_isPlayed_69 (by decide) ?_
    refine ag_iload 11 dL_isPlayed_71 rfl ?_
    refine ag_iadd dL_isPlayed_73 ?_
    obtain ⟨hi2, hf⟩ := hf
    refine ar_iald 4 64 hD rfl (by decide) (xin_v hi2) dL_isPlayed_74 ?_
    refine ag_if_ne 101 dL_isPlayed_75 (by decide) (fun c3 => ?_) (fun c3 => ?_)
    · rw [if_neg c3] at hf
      refine ag_iconst (0 : Int32) dL_isPlayed_101 (by decide) ?_
      refine ag_lv [1, 2, 3, 4, 5, 6, 7, 8, 9, 10, 11, 12, 13, 14, 15, 0] rfl ?_
      exact wkL_isPlayed_102 hl hb hb0 _ _ _ _ _ _ _ _ _ hD ⟨show kc + (435) ≤ 435 by omega, show ks + (2610) ≤ 2610 by omega⟩ hf
    · rw [if_pos c3] at hf
      refine ag_aload_n 2 dL_isPlayed_78 rfl ?_
      refine ag_iload 15 dL_isPlayed_79 rfl ?_
      obtain ⟨hi4, hf⟩ := hf
      refine ar_lald 0 64 hD rfl (by decide) (xin_v hi4) dL_isPlayed_81 ?_
      refine ag_aload_n 3 dL_isPlayed_82 rfl ?_
      refine ag_iload 15 dL_isPlayed_83 rfl ?_
      refine ar_lald 1 64 hD rfl (by decide) (xin_v hi4) dL_isPlayed_85 ?_
      refine ag_lor dL_isPlayed_86 ?_
      refine ag_iload 12 dL_isPlayed_87 rfl ?_
      refine ag_lshr dL_isPlayed_89 ?_
      refine ag_lconst (1 : Int64) dL_isPlayed_90 (by decide) ?_
      refine ag_land dL_isPlayed_91 ?_
      refine ag_lconst (0 : Int64) dL_isPlayed_92 (by decide) ?_
      refine ag_lcmp_ne 101 dL_isPlayed_93 dL_isPlayed_94 (by decide) (fun c5 => ?_) (fun c5 => ?_)
      · rw [if_neg c5] at hf
        refine ag_iconst (0 : Int32) dL_isPlayed_101 (by decide) ?_
        refine ag_lv [1, 2, 3, 4, 5, 6, 7, 8, 9, 10, 11, 12, 13, 14, 15, 0] rfl ?_
        exact wkL_isPlayed_102 hl hb hb0 _ _ _ _ _ _ _ _ _ hD ⟨show kc + (435) ≤ 435 by omega, show ks + (2610) ≤ 2610 by omega⟩ hf
      · rw [if_pos c5] at hf
        refine ag_iconst (1 : Int32) dL_isPlayed_97 (by decide) ?_
        refine ag_goto 102 dL_isPlayed_98 (by decide) ?_
        refine ag_lv [1, 2, 3, 4, 5, 6, 7, 8, 9, 10, 11, 12, 13, 14, 15, 0] rfl ?_
        exact wkL_isPlayed_102 hl hb hb0 _ _ _ _ _ _ _ _ _ hD ⟨show kc + (435) ≤ 435 by omega, show ks + (2610) ≤ 2610 by omega⟩ hf
def gL_isPlayed_40 (lo t Ls : Nat) (xs : Nat → Int32) (K : Int32 → TH → MS → Prop) (h : TH) (L : MS) (a10 : Int32) (a11 : Int32) (a12 : Int32) (a13 : Int32) (s0 : Int32) : Prop :=
  (if a13 = 0 then gL_isPlayed_60 lo t Ls xs K h L a10 a11 a12 a13 s0 (0 : Int32) else (∃ q2, fL_side L a10 = some q2 ∧ gL_isPlayed_60 lo t Ls xs K h L a10 a11 a12 a13 s0 q2))
set_option maxHeartbeats 4000000 in
set_option maxRecDepth 100000 in
theorem wkL_isPlayed_40 {l : Launch} {g : xG} {x0 : xV} {b lo t Ls : Nat} {xs : Nat → Int32} {K : Int32 → TH → MS → Prop} {kc ks : Nat} (hl : l.stackTraces = false) (hb : b + 8 < lo) (hb0 : b < x0.1 ∧ x0.2 b = none) (h : TH) (L : MS) (a10 : Int32) (a11 : Int32) (a12 : Int32) (a13 : Int32) (s0 : Int32) (hD : LDp lo h) (hc : kc + (435) ≤ 435 ∧ ks + (2610) ≤ 2610) (hf : gL_isPlayed_40 lo t Ls xs K h L a10 a11 a12 a13 s0) : AWG (XS b Ls xs) (zR rmL_isPlayed g lo x0 K) ML_isPlayed rmL_isPlayed l g x0 kc ks (LW g lo h L) 40 [(0, va_rf (some t)), (1, .ref (lo + 0)), (2, .ref (lo + 1)), (3, .ref (lo + 2)), (4, .ref (lo + 3)), (5, .ref (lo + 4)), (6, .ref (lo + 5)), (7, .ref (lo + 6)), (8, .ref (lo + 7)), (9, .ref (lo + 10)), (10, .int a10), (11, .int a11), (12, .int a12), (13, .int a13)] [.int s0] := by
  rw [gL_isPlayed_40] at hf
  refine ag_istore [(14, .int s0), (0, va_rf (some t)), (1, .ref (lo + 0)), (2, .ref (lo + 1)), (3, .ref (lo + 2)), (4, .ref (lo + 3)), (5, .ref (lo + 4)), (6, .ref (lo + 5)), (7, .ref (lo + 6)), (8, .ref (lo + 7)), (9, .ref (lo + 10)), (10, .int a10), (11, .int a11), (12, .int a12), (13, .int a13)] dL_isPlayed_40 (by decide) rfl ?_
  refine ag_iload 14 dL_isPlayed_42 rfl ?_
  refine ag_if_eq 59 dL_isPlayed_44 (by decide) (fun c1 => ?_) (fun c1 => ?_)
  · rw [if_pos c1] at hf
    refine ag_iconst (0 : Int32) dL_isPlayed_59 (by decide) ?_
    refine ag_lv [1, 2, 3, 4, 5, 6, 7, 8, 9, 10, 11, 12, 13, 14, 0] rfl ?_
    exact wkL_isPlayed_60 hl hb hb0 _ _ _ _ _ _ _ _ hD ⟨show kc + (435) ≤ 435 by omega, show ks + (2610) ≤ 2610 by omega⟩ hf
  · rw [if_neg c1] at hf
    refine ag_aload 6 dL_isPlayed_47 rfl ?_
    refine ag_aload 8 dL_isPlayed_49 rfl ?_
    refine ag_iload 11 dL_isPlayed_51 rfl ?_
    obtain ⟨q2, hq2, hf⟩ := hf
    refine ag_callS [.ref (lo + 4), .ref (lo + 6), .int a10] 3 (ctA hD (ctL_side hl _ _ hq2)) ⟨wl4 (i := 84) rfl rfl, ciL_side⟩ (wl4 (i := 85) rfl rfl) dL_isPlayed_53 rfl rfl (Nat.le_of_ble_eq_true rfl) ⟨Nat.le_of_ble_eq_true rfl, Nat.le_of_ble_eq_true rfl⟩ ⟨show kc + 0 + 0 ≤ 435 by omega, show ks + 0 + 0 ≤ 2610 by omega⟩ (fun _ => ?_)
    refine ag_goto 60 dL_isPlayed_56 (by decide) ?_
    refine ag_lv [1, 2, 3, 4, 5, 6, 7, 8, 9, 10, 11, 12, 13, 14, 0] rfl ?_
    exact wkL_isPlayed_60 hl hb hb0 _ _ _ _ _ _ _ _ hD ⟨show kc + 0 + (435) ≤ 435 by omega, show ks + 0 + (2610) ≤ 2610 by omega⟩ hf
def gL_isPlayed_21 (lo t Ls : Nat) (xs : Nat → Int32) (K : Int32 → TH → MS → Prop) (h : TH) (L : MS) (a10 : Int32) (a11 : Int32) (a12 : Int32) (s0 : Int32) : Prop :=
  (if s0 = 0 then gL_isPlayed_40 lo t Ls xs K h L a10 a11 a12 s0 (0 : Int32) else (∃ q2, fL_latest L a10 = some q2 ∧ gL_isPlayed_40 lo t Ls xs K h L a10 a11 a12 s0 q2))
set_option maxHeartbeats 4000000 in
set_option maxRecDepth 100000 in
theorem wkL_isPlayed_21 {l : Launch} {g : xG} {x0 : xV} {b lo t Ls : Nat} {xs : Nat → Int32} {K : Int32 → TH → MS → Prop} {kc ks : Nat} (hl : l.stackTraces = false) (hb : b + 8 < lo) (hb0 : b < x0.1 ∧ x0.2 b = none) (h : TH) (L : MS) (a10 : Int32) (a11 : Int32) (a12 : Int32) (s0 : Int32) (hD : LDp lo h) (hc : kc + (435) ≤ 435 ∧ ks + (2610) ≤ 2610) (hf : gL_isPlayed_21 lo t Ls xs K h L a10 a11 a12 s0) : AWG (XS b Ls xs) (zR rmL_isPlayed g lo x0 K) ML_isPlayed rmL_isPlayed l g x0 kc ks (LW g lo h L) 21 [(0, va_rf (some t)), (1, .ref (lo + 0)), (2, .ref (lo + 1)), (3, .ref (lo + 2)), (4, .ref (lo + 3)), (5, .ref (lo + 4)), (6, .ref (lo + 5)), (7, .ref (lo + 6)), (8, .ref (lo + 7)), (9, .ref (lo + 10)), (10, .int a10), (11, .int a11), (12, .int a12)] [.int s0] := by
  rw [gL_isPlayed_21] at hf
  refine ag_istore [(13, .int s0), (0, va_rf (some t)), (1, .ref (lo + 0)), (2, .ref (lo + 1)), (3, .ref (lo + 2)), (4, .ref (lo + 3)), (5, .ref (lo + 4)), (6, .ref (lo + 5)), (7, .ref (lo + 6)), (8, .ref (lo + 7)), (9, .ref (lo + 10)), (10, .int a10), (11, .int a11), (12, .int a12)] dL_isPlayed_21 (by decide) rfl ?_
  refine ag_iload 0 dL_isPlayed_23 rfl ?_
  refine ag_if_eq 39 dL_isPlayed_25 (by decide) (fun c1 => ?_) (fun c1 => ?_)
  · rw [if_pos c1] at hf
    refine ag_iconst (0 : Int32) dL_isPlayed_39 (by decide) ?_
    refine ag_lv [1, 2, 3, 4, 5, 6, 7, 8, 9, 10, 11, 12, 13, 0] rfl ?_
    exact wkL_isPlayed_40 hl hb hb0 _ _ _ _ _ _ _ hD ⟨show kc + (435) ≤ 435 by omega, show ks + (2610) ≤ 2610 by omega⟩ hf
  · rw [if_neg c1] at hf
    refine ag_aload_n 4 dL_isPlayed_28 rfl ?_
    refine ag_aload 9 dL_isPlayed_29 rfl ?_
    refine ag_iload 11 dL_isPlayed_31 rfl ?_
    obtain ⟨q2, hq2, hf⟩ := hf
    refine ag_callS [.ref (lo + 2), .ref (lo + 7), .int a10] 3 (ctA hD (ctL_latest hl _ _ hq2)) ⟨wl4 (i := 34) rfl rfl, ciL_latest⟩ (wl4 (i := 35) rfl rfl) dL_isPlayed_33 rfl rfl (Nat.le_of_ble_eq_true rfl) ⟨Nat.le_of_ble_eq_true rfl, Nat.le_of_ble_eq_true rfl⟩ ⟨show kc + 0 + 0 ≤ 435 by omega, show ks + 0 + 0 ≤ 2610 by omega⟩ (fun _ => ?_)
    refine ag_goto 40 dL_isPlayed_36 (by decide) ?_
    refine ag_lv [1, 2, 3, 4, 5, 6, 7, 8, 9, 10, 11, 12, 13, 0] rfl ?_
    exact wkL_isPlayed_40 hl hb hb0 _ _ _ _ _ _ _ hD ⟨show kc + 0 + (435) ≤ 435 by omega, show ks + 0 + (2610) ≤ 2610 by omega⟩ hf
def gL_isPlayed (lo t Ls : Nat) (xs : Nat → Int32) (K : Int32 → TH → MS → Prop) (h : TH) (L : MS) (a10 : Int32) (a11 : Int32) (a12 : Int32) : Prop :=
  (if (m_I L 7 (1 : Int32).toNatClampNeg) ≤ a10 then gL_isPlayed_21 lo t Ls xs K h L a10 a11 a12 (0 : Int32) else (if (49 : Int32) ≤ a11 then gL_isPlayed_21 lo t Ls xs K h L a10 a11 a12 (0 : Int32) else gL_isPlayed_21 lo t Ls xs K h L a10 a11 a12 (1 : Int32)))
set_option maxHeartbeats 4000000 in
set_option maxRecDepth 100000 in
theorem ctL_isPlayed {l : Launch} {g : xG} {b lo t Ls : Nat} {xs : Nat → Int32} {K : Int32 → TH → MS → Prop} (hl : l.stackTraces = false) (hb : b + 8 < lo) (h : TH) (L : MS) (a10 : Int32) (a11 : Int32) (a12 : Int32) (hD : LDp lo h) (hf : gL_isPlayed lo t Ls xs K h L a10 a11 a12) : RT yL_isPlayed ML_isPlayed rmL_isPlayed l g lo b Ls xs [va_rf (some t), .ref (lo + 0), .ref (lo + 1), .ref (lo + 2), .ref (lo + 3), .ref (lo + 4), .ref (lo + 5), .ref (lo + 6), .ref (lo + 7), .ref (lo + 10), .int a10, .int a11, .int a12] (LW g lo h L) K := by
  rw [gL_isPlayed] at hf
  refine RT.of (lv0 := [(0, va_rf (some t)), (1, .ref (lo + 0)), (2, .ref (lo + 1)), (3, .ref (lo + 2)), (4, .ref (lo + 3)), (5, .ref (lo + 4)), (6, .ref (lo + 5)), (7, .ref (lo + 6)), (8, .ref (lo + 7)), (9, .ref (lo + 10)), (10, .int a10), (11, .int a11), (12, .int a12)]) (by decide +kernel) rfl rfl (by simp [lg_sl, cat_q, cat_i, cat_l, cat_r]) (by simp [lv_args, cat_q, cat_i, cat_l, cat_r]) hl ?_
  have hb0 := LW_no (g := g) (L := L) hD hb
  have hc : 0 + 435 ≤ 435 ∧ 0 + 2610 ≤ 2610 := ⟨by omega, by omega⟩
  refine ag_iload 10 dL_isPlayed_0 rfl ?_
  refine ag_aload 8 dL_isPlayed_2 rfl ?_
  refine ag_iconst (1 : Int32) dL_isPlayed_4 (by decide) ?_
  refine ar_iald 7 5 hD rfl (by decide) (xin_v (by decide)) dL_isPlayed_5 ?_
  refine ag_icmp_ge 20 dL_isPlayed_6 (by decide) (fun c1 => ?_) (fun c1 => ?_)
  · rw [if_pos c1] at hf
    refine ag_iconst (0 : Int32) dL_isPlayed_20 (by decide) ?_
    refine ag_lv [0, 1, 2, 3, 4, 5, 6, 7, 8, 9, 10, 11, 12] rfl ?_
    exact wkL_isPlayed_21 hl hb hb0 _ _ _ _ _ _ hD ⟨show 0 + (435) ≤ 435 by omega, show 0 + (2610) ≤ 2610 by omega⟩ hf
  · rw [if_neg c1] at hf
    refine ag_iload 11 dL_isPlayed_9 rfl ?_
    refine ag_bipush (49 : Int32) dL_isPlayed_11 (by decide) ?_
    refine ag_icmp_ge 20 dL_isPlayed_13 (by decide) (fun c2 => ?_) (fun c2 => ?_)
    · rw [if_pos c2] at hf
      refine ag_iconst (0 : Int32) dL_isPlayed_20 (by decide) ?_
      refine ag_lv [0, 1, 2, 3, 4, 5, 6, 7, 8, 9, 10, 11, 12] rfl ?_
      exact wkL_isPlayed_21 hl hb hb0 _ _ _ _ _ _ hD ⟨show 0 + (435) ≤ 435 by omega, show 0 + (2610) ≤ 2610 by omega⟩ hf
    · rw [if_neg c2] at hf
      refine ag_iconst (1 : Int32) dL_isPlayed_16 (by decide) ?_
      refine ag_goto 21 dL_isPlayed_17 (by decide) ?_
      refine ag_lv [0, 1, 2, 3, 4, 5, 6, 7, 8, 9, 10, 11, 12] rfl ?_
      exact wkL_isPlayed_21 hl hb hb0 _ _ _ _ _ _ hD ⟨show 0 + (435) ≤ 435 by omega, show 0 + (2610) ≤ 2610 by omega⟩ hf
abbrev ML_isPassed : xM := (RL, cL_isPassed, 13, (some .boolean), "isPassed")
abbrev rmL_isPassed : Room := { frames := 41, cells := 125, slots := 750, locals := 2413 }
theorem ciL_isPassed : Cond.code yL_isPassed cL_isPassed 13 (some .boolean) ∈ wt ∧ Cond.initialized yL_isPassed.cls ∈ wt ∧ (yL_isPassed.cls ≠ "java/lang/invoke/MethodHandle" ∧ yL_isPassed.cls ≠ "java/lang/invoke/VarHandle" ∧ (parseMethodDescriptor yL_isPassed.desc).map (fun d => d.parameters.length) = some 11) := ⟨wl4 (i := 101) rfl rfl, wl1 (i := 0) rfl rfl, by decide +kernel, by decide +kernel, by decide +kernel⟩
def gL_isPassed_211 (lo t Ls : Nat) (xs : Nat → Int32) (K : Int32 → TH → MS → Prop) (h : TH) (L : MS) (a9 : Int32) (a10 : Int32) : Prop :=
  gL_does lo t Ls xs (fun v2 h3 L4 => (xin ((32 : Int32) + a9) 64 = true ∧ (if v2 = (m_I L4 4 ((32 : Int32) + a9).toNatClampNeg) then K (1 : Int32) h3 L4 else K (0 : Int32) h3 L4))) h L (3 : Int32) a9 a10 (0 : Int32) (0 : Int32) (0 : Int32)
set_option maxHeartbeats 4000000 in
set_option maxRecDepth 100000 in
theorem wkL_isPassed_211 {l : Launch} {g : xG} {x0 : xV} {b lo t Ls : Nat} {xs : Nat → Int32} {K : Int32 → TH → MS → Prop} {kc ks : Nat} (hl : l.stackTraces = false) (hb : b + 8 < lo) (hb0 : b < x0.1 ∧ x0.2 b = none) (h : TH) (L : MS) (a9 : Int32) (a10 : Int32) (hD : LDp lo h) (hc : kc + (125) ≤ 125 ∧ ks + (750) ≤ 750) (hf : gL_isPassed_211 lo t Ls xs K h L a9 a10) : AWG (XS b Ls xs) (zR rmL_isPassed g lo x0 K) ML_isPassed rmL_isPassed l g x0 kc ks (LW g lo h L) 211 [(0, va_rf (some t)), (5, .ref (lo + 4)), (9, .int a9), (10, .int a10)] [] := by
  rw [gL_isPassed_211] at hf
  refine ag_qload_n 0 dL_isPassed_211 rfl ?_
  refine ag_iconst (3 : Int32) dL_isPassed_212 (by decide) ?_
  refine ag_iload 2 dL_isPassed_213 rfl ?_
  refine ag_iload 3 dL_isPassed_215 rfl ?_
  refine ag_iconst (0 : Int32) dL_isPassed_217 (by decide) ?_
  refine ag_iconst (0 : Int32) dL_isPassed_218 (by decide) ?_
  refine ag_iconst (0 : Int32) dL_isPassed_219 (by decide) ?_
  refine ag_callRH (fun s a c h => h.1) [va_rf (some t), .int (3 : Int32), .int a9, .int a10, .int (0 : Int32), .int (0 : Int32), .int (0 : Int32)] 7 (ctL_does hl _ _ _ _ _ _ _ _ hD hf) ⟨wl1 (i := 129) rfl rfl, ciL_does⟩ (wl1 (i := 130) rfl rfl) dL_isPassed_220 rfl rfl (Nat.le_of_ble_eq_true rfl) ⟨Nat.le_of_ble_eq_true rfl, Nat.le_of_ble_eq_true rfl⟩ ⟨show kc + 125 ≤ 125 by omega, show ks + 750 ≤ 750 by omega⟩ (fun v2 h3 L4 hf hD5 => ?_)
  refine ag_aload 1 dL_isPassed_223 rfl ?_
  refine ag_bipush (32 : Int32) dL_isPassed_225 (by decide) ?_
  refine ag_iload 2 dL_isPassed_227 rfl ?_
  refine ag_iadd dL_isPassed_229 ?_
  obtain ⟨hi6, hf⟩ := hf
  refine ar_iald 4 64 hD5 rfl (by decide) (xin_v hi6) dL_isPassed_230 ?_
  refine ag_icmp_ne 238 dL_isPassed_231 (by decide) (fun c7 => ?_) (fun c7 => ?_)
  · rw [if_neg c7] at hf
    refine ag_iconst (0 : Int32) dL_isPassed_238 (by decide) ?_
    exact agr_zret hD5 hf rfl dL_isPassed_239 rfl ⟨show kc + 125 + 0 ≤ 125 by omega, show ks + 750 + 0 ≤ 750 by omega⟩
  · rw [if_pos c7] at hf
    refine ag_iconst (1 : Int32) dL_isPassed_234 (by decide) ?_
    refine ag_goto 239 dL_isPassed_235 (by decide) ?_
    exact agr_zret hD5 hf rfl dL_isPassed_239 rfl ⟨show kc + 125 + 0 ≤ 125 by omega, show ks + 750 + 0 ≤ 750 by omega⟩
def gL_isPassed_208 (lo t Ls : Nat) (xs : Nat → Int32) (K : Int32 → TH → MS → Prop) (h : TH) (L : MS) (a9 : Int32) (a10 : Int32) (s4 : Int32) (s5 : Int32) : Prop :=
  (∃ q1, fL_ends L s4 s5 = some q1 ∧ gL_isPassed_211 lo t Ls xs K h q1 a9 a10)
set_option maxHeartbeats 4000000 in
set_option maxRecDepth 100000 in
theorem wkL_isPassed_208 {l : Launch} {g : xG} {x0 : xV} {b lo t Ls : Nat} {xs : Nat → Int32} {K : Int32 → TH → MS → Prop} {kc ks : Nat} (hl : l.stackTraces = false) (hb : b + 8 < lo) (hb0 : b < x0.1 ∧ x0.2 b = none) (h : TH) (L : MS) (a9 : Int32) (a10 : Int32) (s4 : Int32) (s5 : Int32) (hD : LDp lo h) (hc : kc + (125) ≤ 125 ∧ ks + (750) ≤ 750) (hf : gL_isPassed_208 lo t Ls xs K h L a9 a10 s4 s5) : AWG (XS b Ls xs) (zR rmL_isPassed g lo x0 K) ML_isPassed rmL_isPassed l g x0 kc ks (LW g lo h L) 208 [(0, va_rf (some t)), (5, .ref (lo + 4)), (9, .int a9), (10, .int a10)] [.int s5, .int s4, .ref (lo + 7), .ref (lo + 6), .ref (lo + 4), .ref (lo + 3)] := by
  rw [gL_isPassed_208] at hf
  obtain ⟨q1, hq1, hf⟩ := hf
  refine ag_callS [.ref (lo + 3), .ref (lo + 4), .ref (lo + 6), .ref (lo + 7), .int s4, .int s5] 6 (ctA hD (ctL_ends hl _ _ _ hq1)) ⟨wl4 (i := 93) rfl rfl, ciL_ends⟩ (wl4 (i := 94) rfl rfl) dL_isPassed_208 rfl rfl (Nat.le_of_ble_eq_true rfl) ⟨Nat.le_of_ble_eq_true rfl, Nat.le_of_ble_eq_true rfl⟩ ⟨show kc + 0 + 0 ≤ 125 by omega, show ks + 0 + 0 ≤ 750 by omega⟩ (fun _ => ?_)
  refine ag_lv [0, 1, 2, 3] rfl ?_
  exact wkL_isPassed_211 hl hb hb0 _ _ _ _ hD ⟨show kc + 0 + (125) ≤ 125 by omega, show ks + 0 + (750) ≤ 750 by omega⟩ hf
def gL_isPassed_71 (lo t Ls : Nat) (xs : Nat → Int32) (K : Int32 → TH → MS → Prop) (h : TH) (L : MS) (s0 : Int32) (s1 : Int32) : Prop :=
  (if s0 = s1 then K (1 : Int32) h L else K (0 : Int32) h L)
set_option maxHeartbeats 4000000 in
set_option maxRecDepth 100000 in
theorem wkL_isPassed_71 {l : Launch} {g : xG} {x0 : xV} {b lo t Ls : Nat} {xs : Nat → Int32} {K : Int32 → TH → MS → Prop} {kc ks : Nat} (hl : l.stackTraces = false) (hb : b + 8 < lo) (hb0 : b < x0.1 ∧ x0.2 b = none) (h : TH) (L : MS) (s0 : Int32) (s1 : Int32) (hD : LDp lo h) (hc : kc + (0) ≤ 125 ∧ ks + (0) ≤ 750) (hf : gL_isPassed_71 lo t Ls xs K h L s0 s1) : AWG (XS b Ls xs) (zR rmL_isPassed g lo x0 K) ML_isPassed rmL_isPassed l g x0 kc ks (LW g lo h L) 71 [] [.int s1, .int s0] := by
  rw [gL_isPassed_71] at hf
  refine ag_icmp_ne 78 dL_isPassed_71 (by decide) (fun c1 => ?_) (fun c1 => ?_)
  · rw [if_neg c1] at hf
    refine ag_iconst (0 : Int32) dL_isPassed_78 (by decide) ?_
    exact agr_zret hD hf rfl dL_isPassed_79 rfl ⟨show kc + 0 ≤ 125 by omega, show ks + 0 ≤ 750 by omega⟩
  · rw [if_pos c1] at hf
    refine ag_iconst (1 : Int32) dL_isPassed_74 (by decide) ?_
    refine ag_goto 79 dL_isPassed_75 (by decide) ?_
    exact agr_zret hD hf rfl dL_isPassed_79 rfl ⟨show kc + 0 ≤ 125 by omega, show ks + 0 ≤ 750 by omega⟩
def gL_isPassed_28 (lo t Ls : Nat) (xs : Nat → Int32) (K : Int32 → TH → MS → Prop) (h : TH) (L : MS) (a9 : Int32) (a10 : Int32) : Prop :=
  gL_does lo t Ls xs (fun v2 h3 L4 => (if a9 = (m_I L4 7 (1 : Int32).toNatClampNeg) then gL_isPassed_71 lo t Ls xs K h3 L4 v2 (-300 : Int32) else (if a10 ≤ (1000 : Int32) then gL_isPassed_71 lo t Ls xs K h3 L4 v2 (-100 : Int32) else gL_isPassed_71 lo t Ls xs K h3 L4 v2 (-200 : Int32)))) h L (3 : Int32) a9 a10 (0 : Int32) (0 : Int32) (0 : Int32)
set_option maxHeartbeats 4000000 in
set_option maxRecDepth 100000 in
theorem wkL_isPassed_28 {l : Launch} {g : xG} {x0 : xV} {b lo t Ls : Nat} {xs : Nat → Int32} {K : Int32 → TH → MS → Prop} {kc ks : Nat} (hl : l.stackTraces = false) (hb : b + 8 < lo) (hb0 : b < x0.1 ∧ x0.2 b = none) (h : TH) (L : MS) (a9 : Int32) (a10 : Int32) (hD : LDp lo h) (hc : kc + (125) ≤ 125 ∧ ks + (750) ≤ 750) (hf : gL_isPassed_28 lo t Ls xs K h L a9 a10) : AWG (XS b Ls xs) (zR rmL_isPassed g lo x0 K) ML_isPassed rmL_isPassed l g x0 kc ks (LW g lo h L) 28 [(0, va_rf (some t)), (8, .ref (lo + 7)), (9, .int a9), (10, .int a10)] [] := by
  rw [gL_isPassed_28] at hf
  refine ag_qload_n 0 dL_isPassed_28 rfl ?_
  refine ag_iconst (3 : Int32) dL_isPassed_29 (by decide) ?_
  refine ag_iload 2 dL_isPassed_30 rfl ?_
  refine ag_iload 3 dL_isPassed_32 rfl ?_
  refine ag_iconst (0 : Int32) dL_isPassed_34 (by decide) ?_
  refine ag_iconst (0 : Int32) dL_isPassed_35 (by decide) ?_
  refine ag_iconst (0 : Int32) dL_isPassed_36 (by decide) ?_
  refine ag_callRH (fun s a c h => h.1) [va_rf (some t), .int (3 : Int32), .int a9, .int a10, .int (0 : Int32), .int (0 : Int32), .int (0 : Int32)] 7 (ctL_does hl _ _ _ _ _ _ _ _ hD hf) ⟨wl1 (i := 129) rfl rfl, ciL_does⟩ (wl1 (i := 130) rfl rfl) dL_isPassed_37 rfl rfl (Nat.le_of_ble_eq_true rfl) ⟨Nat.le_of_ble_eq_true rfl, Nat.le_of_ble_eq_true rfl⟩ ⟨show kc + 125 ≤ 125 by omega, show ks + 750 ≤ 750 by omega⟩ (fun v2 h3 L4 hf hD5 => ?_)
  refine ag_iload 2 dL_isPassed_40 rfl ?_
  refine ag_aload 1 dL_isPassed_42 rfl ?_
  refine ag_iconst (1 : Int32) dL_isPassed_44 (by decide) ?_
  refine ar_iald 7 5 hD5 rfl (by decide) (xin_v (by decide)) dL_isPassed_45 ?_
  refine ag_icmp_ne 55 dL_isPassed_46 (by decide) (fun c6 => ?_) (fun c6 => ?_)
  · rw [if_neg c6] at hf
    refine ag_iload 3 dL_isPassed_55 rfl ?_
    refine ag_sipush (1000 : Int32) dL_isPassed_57 (by decide) ?_
    refine ag_icmp_le 69 dL_isPassed_60 (by decide) (fun c7 => ?_) (fun c7 => ?_)
    · rw [if_pos c7] at hf
      refine ag_bipush (-100 : Int32) dL_isPassed_69 (by decide) ?_
      refine ag_lv [] rfl ?_
      exact wkL_isPassed_71 hl hb hb0 _ _ _ _ hD5 ⟨show kc + 125 + (0) ≤ 125 by omega, show ks + 750 + (0) ≤ 750 by omega⟩ hf
    · rw [if_neg c7] at hf
      refine ag_sipush (-200 : Int32) dL_isPassed_63 (by decide) ?_
      refine ag_goto 71 dL_isPassed_66 (by decide) ?_
      refine ag_lv [] rfl ?_
      exact wkL_isPassed_71 hl hb hb0 _ _ _ _ hD5 ⟨show kc + 125 + (0) ≤ 125 by omega, show ks + 750 + (0) ≤ 750 by omega⟩ hf
  · rw [if_pos c6] at hf
    refine ag_sipush (-300 : Int32) dL_isPassed_49 (by decide) ?_
    refine ag_goto 71 dL_isPassed_52 (by decide) ?_
    refine ag_lv [] rfl ?_
    exact wkL_isPassed_71 hl hb hb0 _ _ _ _ hD5 ⟨show kc + 125 + (0) ≤ 125 by omega, show ks + 750 + (0) ≤ 750 by omega⟩ hf
def gL_isPassed (lo t Ls : Nat) (xs : Nat → Int32) (K : Int32 → TH → MS → Prop) (h : TH) (L : MS) (a9 : Int32) (a10 : Int32) : Prop :=
  (if a9 = (m_I L 7 (1 : Int32).toNatClampNeg) then gL_isPassed_28 lo t Ls xs K h L a9 a10 else (if (1000 : Int32) < a10 then gL_isPassed_28 lo t Ls xs K h L a9 a10 else (xin ((32 : Int32) + a9) 64 = true ∧ (if (m_I L 4 ((32 : Int32) + a9).toNatClampNeg) ≤ 0 then (∃ q5, fL_side L a9 = some q5 ∧ (∃ q6, fL_latest L a9 = some q6 ∧ (∃ q7, fL_runsOut L a9 q5 a10 = some q7 ∧ (if q7.1 = false then (xin a9 48 = true ∧ (∃ W10, (ms_I q7.2 6 a9.toNatClampNeg ((m_I q7.2 6 a9.toNatClampNeg) + (1 : Int32))) = W10 ∧ (xin ((16 : Int32) + a9) 48 = true ∧ (∃ W12, (ms_I W10 6 ((16 : Int32) + a9).toNatClampNeg ((m_I W10 6 ((16 : Int32) + a9).toNatClampNeg) + (1 : Int32))) = W12 ∧ (if (m_I W12 6 ((16 : Int32) + a9).toNatClampNeg) = (2 : Int32) then (xin q6 64 = true ∧ (xin ((16 : Int32) + a9) 64 = true ∧ (∃ q16, fL_score (m_J W12 0 q6.toNatClampNeg) (m_J W12 1 q6.toNatClampNeg) ((m_I W12 4 ((16 : Int32) + a9).toNatClampNeg) - (m_I W12 4 ((16 : Int32) + a9).toNatClampNeg) / (10 : Int32) * (10 : Int32)) = some q16 ∧ (if q16 ≤ 0 then gL_isPassed_208 lo t Ls xs K h W12 a9 a10 a9 (1 : Int32) else gL_isPassed_208 lo t Ls xs K h W12 a9 a10 a9 (0 : Int32))))) else gL_isPassed_211 lo t Ls xs K h W12 a9 a10))))) else (∃ q18, fL_ends q7.2 a9 ((1 : Int32) - q5) = some q18 ∧ gL_isPassed_211 lo t Ls xs K h q18 a9 a10))))) else gL_isPassed_28 lo t Ls xs K h L a9 a10))))
set_option maxHeartbeats 4000000 in
set_option maxRecDepth 100000 in
theorem ctL_isPassed {l : Launch} {g : xG} {b lo t Ls : Nat} {xs : Nat → Int32} {K : Int32 → TH → MS → Prop} (hl : l.stackTraces = false) (hb : b + 8 < lo) (h : TH) (L : MS) (a9 : Int32) (a10 : Int32) (hD : LDp lo h) (hf : gL_isPassed lo t Ls xs K h L a9 a10) : RT yL_isPassed ML_isPassed rmL_isPassed l g lo b Ls xs [va_rf (some t), .ref (lo + 0), .ref (lo + 1), .ref (lo + 2), .ref (lo + 3), .ref (lo + 4), .ref (lo + 5), .ref (lo + 6), .ref (lo + 7), .int a9, .int a10] (LW g lo h L) K := by
  rw [gL_isPassed] at hf
  refine RT.of (lv0 := [(0, va_rf (some t)), (1, .ref (lo + 0)), (2, .ref (lo + 1)), (3, .ref (lo + 2)), (4, .ref (lo + 3)), (5, .ref (lo + 4)), (6, .ref (lo + 5)), (7, .ref (lo + 6)), (8, .ref (lo + 7)), (9, .int a9), (10, .int a10)]) (by decide +kernel) rfl rfl (by simp [lg_sl, cat_q, cat_i, cat_l, cat_r]) (by simp [lv_args, cat_q, cat_i, cat_l, cat_r]) hl ?_
  have hb0 := LW_no (g := g) (L := L) hD hb
  have hc : 0 + 125 ≤ 125 ∧ 0 + 750 ≤ 750 := ⟨by omega, by omega⟩
  refine ag_iload 9 dL_isPassed_0 rfl ?_
  refine ag_aload 8 dL_isPassed_2 rfl ?_
  refine ag_iconst (1 : Int32) dL_isPassed_4 (by decide) ?_
  refine ar_iald 7 5 hD rfl (by decide) (xin_v (by decide)) dL_isPassed_5 ?_
  refine ag_icmp_eq 28 dL_isPassed_6 (by decide) (fun c1 => ?_) (fun c1 => ?_)
  · rw [if_pos c1] at hf
    refine ag_lv [0, 8, 9, 10] rfl ?_
    exact wkL_isPassed_28 hl hb hb0 _ _ _ _ hD ⟨show 0 + (125) ≤ 125 by omega, show 0 + (750) ≤ 750 by omega⟩ hf
  · rw [if_neg c1] at hf
    refine ag_iload 10 dL_isPassed_9 rfl ?_
    refine ag_sipush (1000 : Int32) dL_isPassed_11 (by decide) ?_
    refine ag_icmp_gt 28 dL_isPassed_14 (by decide) (fun c2 => ?_) (fun c2 => ?_)
    · rw [if_pos c2] at hf
      refine ag_lv [0, 8, 9, 10] rfl ?_
      exact wkL_isPassed_28 hl hb hb0 _ _ _ _ hD ⟨show 0 + (125) ≤ 125 by omega, show 0 + (750) ≤ 750 by omega⟩ hf
    · rw [if_neg c2] at hf
      refine ag_aload 5 dL_isPassed_17 rfl ?_
      refine ag_bipush (32 : Int32) dL_isPassed_19 (by decide) ?_
      refine ag_iload 9 dL_isPassed_21 rfl ?_
      refine ag_iadd dL_isPassed_23 ?_
      obtain ⟨hi3, hf⟩ := hf
      refine ar_iald 4 64 hD rfl (by decide) (xin_v hi3) dL_isPassed_24 ?_
      refine ag_if_le 80 dL_isPassed_25 (by decide) (fun c4 => ?_) (fun c4 => ?_)
      · rw [if_pos c4] at hf
        refine ag_aload 5 dL_isPassed_80 rfl ?_
        refine ag_aload 7 dL_isPassed_82 rfl ?_
        refine ag_iload 9 dL_isPassed_84 rfl ?_
        obtain ⟨q5, hq5, hf⟩ := hf
        refine ag_callS [.ref (lo + 4), .ref (lo + 6), .int a9] 3 (ctA hD (ctL_side hl _ _ hq5)) ⟨wl4 (i := 84) rfl rfl, ciL_side⟩ (wl4 (i := 85) rfl rfl) dL_isPassed_86 rfl rfl (Nat.le_of_ble_eq_true rfl) ⟨Nat.le_of_ble_eq_true rfl, Nat.le_of_ble_eq_true rfl⟩ ⟨show 0 + 0 + 0 ≤ 125 by omega, show 0 + 0 + 0 ≤ 750 by omega⟩ (fun _ => ?_)
        refine ag_istore [(11, .int q5), (0, va_rf (some t)), (1, .ref (lo + 0)), (2, .ref (lo + 1)), (3, .ref (lo + 2)), (4, .ref (lo + 3)), (5, .ref (lo + 4)), (6, .ref (lo + 5)), (7, .ref (lo + 6)), (8, .ref (lo + 7)), (9, .int a9), (10, .int a10)] dL_isPassed_89 (by decide) rfl ?_
        refine ag_aload_n 4 dL_isPassed_91 rfl ?_
        refine ag_aload 9 dL_isPassed_92 rfl ?_
        refine ag_iload 10 dL_isPassed_94 rfl ?_
        obtain ⟨q6, hq6, hf⟩ := hf
        refine ag_callS [.ref (lo + 2), .ref (lo + 7), .int a9] 3 (ctA hD (ctL_latest hl _ _ hq6)) ⟨wl4 (i := 34) rfl rfl, ciL_latest⟩ (wl4 (i := 35) rfl rfl) dL_isPassed_96 rfl rfl (Nat.le_of_ble_eq_true rfl) ⟨Nat.le_of_ble_eq_true rfl, Nat.le_of_ble_eq_true rfl⟩ ⟨show 0 + 0 + 0 + 0 ≤ 125 by omega, show 0 + 0 + 0 + 0 ≤ 750 by omega⟩ (fun _ => ?_)
        refine ag_istore [(12, .int q6), (11, .int q5), (0, va_rf (some t)), (1, .ref (lo + 0)), (2, .ref (lo + 1)), (3, .ref (lo + 2)), (4, .ref (lo + 3)), (5, .ref (lo + 4)), (6, .ref (lo + 5)), (7, .ref (lo + 6)), (8, .ref (lo + 7)), (9, .int a9), (10, .int a10)] dL_isPassed_99 (by decide) rfl ?_
        refine ag_aload 8 dL_isPassed_101 rfl ?_
        refine ag_iload 11 dL_isPassed_103 rfl ?_
        refine ag_iload 1 dL_isPassed_105 rfl ?_
        refine ag_iload 12 dL_isPassed_107 rfl ?_
        obtain ⟨q7, hq7, hf⟩ := hf
        refine ag_callS [.ref (lo + 5), .int a9, .int q5, .int a10] 4 (ctA hD (ctL_runsOut hl _ _ _ _ hq7)) ⟨wl4 (i := 90) rfl rfl, ciL_runsOut⟩ (wl4 (i := 91) rfl rfl) dL_isPassed_109 rfl rfl (Nat.le_of_ble_eq_true rfl) ⟨Nat.le_of_ble_eq_true rfl, Nat.le_of_ble_eq_true rfl⟩ ⟨show 0 + 0 + 0 + 0 + 0 ≤ 125 by omega, show 0 + 0 + 0 + 0 + 0 ≤ 750 by omega⟩ (fun _ => ?_)
        refine ag_ifb_eq 135 dL_isPassed_112 (by decide) (fun c8 => ?_) (fun c8 => ?_)
        · rw [if_pos c8] at hf
          refine ag_aload 9 dL_isPassed_135 rfl ?_
          refine ag_iload 11 dL_isPassed_137 rfl ?_
          refine ag_dup2 dL_isPassed_139 rfl rfl ?_
          obtain ⟨hi9, hf⟩ := hf
          refine ar_iald 6 48 hD rfl (by decide) (xin_v hi9) dL_isPassed_140 ?_
          refine ag_iconst (1 : Int32) dL_isPassed_141 (by decide) ?_
          refine ag_iadd dL_isPassed_142 ?_
          obtain ⟨W10, hW10, hf⟩ := hf
          refine ar_iast 6 48 hD rfl (by decide) (xin_v hi9) dL_isPassed_143 ?_
          rw [hW10]
          refine ag_aload 9 dL_isPassed_144 rfl ?_
          refine ag_bipush (16 : Int32) dL_isPassed_146 (by decide) ?_
          refine ag_iload 11 dL_isPassed_148 rfl ?_
          refine ag_iadd dL_isPassed_150 ?_
          refine ag_dup2 dL_isPassed_151 rfl rfl ?_
          obtain ⟨hi11, hf⟩ := hf
          refine ar_iald 6 48 hD rfl (by decide) (xin_v hi11) dL_isPassed_152 ?_
          refine ag_iconst (1 : Int32) dL_isPassed_153 (by decide) ?_
          refine ag_iadd dL_isPassed_154 ?_
          obtain ⟨W12, hW12, hf⟩ := hf
          refine ar_iast 6 48 hD rfl (by decide) (xin_v hi11) dL_isPassed_155 ?_
          rw [hW12]
          refine ag_aload 9 dL_isPassed_156 rfl ?_
          refine ag_bipush (16 : Int32) dL_isPassed_158 (by decide) ?_
          refine ag_iload 11 dL_isPassed_160 rfl ?_
          refine ag_iadd dL_isPassed_162 ?_
          refine ar_iald 6 48 hD rfl (by decide) (xin_v hi11) dL_isPassed_163 ?_
          refine ag_iconst (2 : Int32) dL_isPassed_164 (by decide) ?_
          refine ag_icmp_ne 211 dL_isPassed_165 (by decide) (fun c13 => ?_) (fun c13 => ?_)
          · rw [if_neg c13] at hf
            refine ag_lv [2, 7, 11, 12] rfl ?_
            exact wkL_isPassed_211 hl hb hb0 _ _ _ _ hD ⟨show 0 + 0 + 0 + 0 + (125) ≤ 125 by omega, show 0 + 0 + 0 + 0 + (750) ≤ 750 by omega⟩ hf
          · rw [if_pos c13] at hf
            refine ag_aload 6 dL_isPassed_168 rfl ?_
            refine ag_aload 7 dL_isPassed_170 rfl ?_
            refine ag_aload 9 dL_isPassed_172 rfl ?_
            refine ag_aload 10 dL_isPassed_174 rfl ?_
            refine ag_iload 11 dL_isPassed_176 rfl ?_
            refine ag_aload_n 3 dL_isPassed_178 rfl ?_
            refine ag_iload 0 dL_isPassed_179 rfl ?_
            obtain ⟨hi14, hf⟩ := hf
            refine ar_lald 0 64 hD rfl (by decide) (xin_v hi14) dL_isPassed_181 ?_
            refine ag_aload_n 4 dL_isPassed_182 rfl ?_
            refine ag_iload 0 dL_isPassed_183 rfl ?_
            refine ar_lald 1 64 hD rfl (by decide) (xin_v hi14) dL_isPassed_185 ?_
            refine ag_aload 7 dL_isPassed_186 rfl ?_
            refine ag_bipush (16 : Int32) dL_isPassed_188 (by decide) ?_
            refine ag_iload 11 dL_isPassed_190 rfl ?_
            refine ag_iadd dL_isPassed_192 ?_
            obtain ⟨hi15, hf⟩ := hf
            refine ar_iald 4 64 hD rfl (by decide) (xin_v hi15) dL_isPassed_193 ?_
            refine ag_bipush (10 : Int32) dL_isPassed_194 (by decide) ?_
            refine ag_irem dL_isPassed_196 (by decide) ?_
            obtain ⟨q16, hq16, hf⟩ := hf
            refine ag_callS [.long (m_J W12 0 q6.toNatClampNeg), .long (m_J W12 1 q6.toNatClampNeg), .int ((m_I W12 4 ((16 : Int32) + a9).toNatClampNeg) - (m_I W12 4 ((16 : Int32) + a9).toNatClampNeg) / (10 : Int32) * (10 : Int32))] 3 (ctA hD (ctL_score (L := W12) hl _ _ _ hq16)) ⟨wl4 (i := 49) rfl rfl, ciL_score⟩ (wl4 (i := 50) rfl rfl) dL_isPassed_197 rfl rfl (Nat.le_of_ble_eq_true rfl) ⟨Nat.le_of_ble_eq_true rfl, Nat.le_of_ble_eq_true rfl⟩ ⟨show 0 + 0 + 0 + 0 + 0 + 0 ≤ 125 by omega, show 0 + 0 + 0 + 0 + 0 + 0 ≤ 750 by omega⟩ (fun _ => ?_)
            refine ag_if_le 207 dL_isPassed_200 (by decide) (fun c17 => ?_) (fun c17 => ?_)
            · rw [if_pos c17] at hf
              refine ag_iconst (1 : Int32) dL_isPassed_207 (by decide) ?_
              refine ag_lv [2, 7, 11, 12] rfl ?_
              exact wkL_isPassed_208 hl hb hb0 _ _ _ _ _ _ hD ⟨show 0 + 0 + 0 + 0 + 0 + (125) ≤ 125 by omega, show 0 + 0 + 0 + 0 + 0 + (750) ≤ 750 by omega⟩ hf
            · rw [if_neg c17] at hf
              refine ag_iconst (0 : Int32) dL_isPassed_203 (by decide) ?_
              refine ag_goto 208 dL_isPassed_204 (by decide) ?_
              refine ag_lv [2, 7, 11, 12] rfl ?_
              exact wkL_isPassed_208 hl hb hb0 _ _ _ _ _ _ hD ⟨show 0 + 0 + 0 + 0 + 0 + (125) ≤ 125 by omega, show 0 + 0 + 0 + 0 + 0 + (750) ≤ 750 by omega⟩ hf
        · rw [if_neg c8] at hf
          refine ag_aload 6 dL_isPassed_115 rfl ?_
          refine ag_aload 7 dL_isPassed_117 rfl ?_
          refine ag_aload 9 dL_isPassed_119 rfl ?_
          refine ag_aload 10 dL_isPassed_121 rfl ?_
          refine ag_iload 11 dL_isPassed_123 rfl ?_
          refine ag_iconst (1 : Int32) dL_isPassed_125 (by decide) ?_
          refine ag_iload 1 dL_isPassed_126 rfl ?_
          refine ag_isub dL_isPassed_128 ?_
          obtain ⟨q18, hq18, hf⟩ := hf
          refine ag_callS [.ref (lo + 3), .ref (lo + 4), .ref (lo + 6), .ref (lo + 7), .int a9, .int ((1 : Int32) - q5)] 6 (ctA hD (ctL_ends hl _ _ _ hq18)) ⟨wl4 (i := 93) rfl rfl, ciL_ends⟩ (wl4 (i := 94) rfl rfl) dL_isPassed_129 rfl rfl (Nat.le_of_ble_eq_true rfl) ⟨Nat.le_of_ble_eq_true rfl, Nat.le_of_ble_eq_true rfl⟩ ⟨show 0 + 0 + 0 + 0 + 0 + 0 ≤ 125 by omega, show 0 + 0 + 0 + 0 + 0 + 0 ≤ 750 by omega⟩ (fun _ => ?_)
          refine ag_goto 211 dL_isPassed_132 (by decide) ?_
          refine ag_lv [2, 7, 11, 12] rfl ?_
          exact wkL_isPassed_211 hl hb hb0 _ _ _ _ hD ⟨show 0 + 0 + 0 + 0 + 0 + (125) ≤ 125 by omega, show 0 + 0 + 0 + 0 + 0 + (750) ≤ 750 by omega⟩ hf
      · rw [if_neg c4] at hf
        refine ag_lv [0, 8, 9, 10] rfl ?_
        exact wkL_isPassed_28 hl hb hb0 _ _ _ _ hD ⟨show 0 + (125) ≤ 125 by omega, show 0 + (750) ≤ 750 by omega⟩ hf
