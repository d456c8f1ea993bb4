abbrev MX9_catches : xM := (RX9, cX9_catches, 14, (some .boolean), "catches")
abbrev rmX9_catches : Room := { frames := 5, cells := 0, slots := 0, locals := 143 }
theorem ciX9_catches : Cond.code yX9_catches cX9_catches 14 (some .boolean) ∈ wt ∧ Cond.initialized yX9_catches.cls ∈ wt ∧ (yX9_catches.cls ≠ "java/lang/invoke/MethodHandle" ∧ yX9_catches.cls ≠ "java/lang/invoke/VarHandle" ∧ (parseMethodDescriptor yX9_catches.desc).map (fun d => d.parameters.length) = some 5) := ⟨wl5 (i := 214) rfl rfl, wl1 (i := 4) rfl rfl, by decide +kernel, by decide +kernel, by decide +kernel⟩
def fX9_catches_528 (k39 : MS → Int32 → Int32 → Int32 → Int32 → Int32 → Int32 → Option (Bool × MS)) (S : MS) (a5 : Int32) (a6 : Int32) (a7 : Int32) (a8 : Int32) (a9 : Int32) (a10 : Int32) : Option (Bool × MS) :=
  k39 S a5 a6 a7 a8 a9 a10
set_option maxHeartbeats 4000000 in
set_option maxRecDepth 100000 in
theorem wkX9_catches_528 {l : Launch} {g : xG} {x0 : xV} {mo sz : Nat} (hl : l.stackTraces = false) {r : Bool × MS} (k39 : MS → Int32 → Int32 → Int32 → Int32 → Int32 → Int32 → Option (Bool × MS)) (hk39 : ∀ (S : MS) (a5 : Int32) (a6 : Int32) (a7 : Int32) (a8 : Int32) (a9 : Int32) (a10 : Int32), k39 S a5 a6 a7 a8 a9 a10 = some r → AW MX9_catches rmX9_catches l g x0 (.inl (some (.int (bi r.1)))) (moE g mo sz r.2) 0 0 (moE g mo sz S) 39 [(0, .ref mo), (5, .int a5), (6, .int a6), (7, .int a7), (8, .int a8), (9, .int a9), (10, .int a10)] []) (S : MS) (a5 : Int32) (a6 : Int32) (a7 : Int32) (a8 : Int32) (a9 : Int32) (a10 : Int32) (hf : fX9_catches_528 k39 S a5 a6 a7 a8 a9 a10 = some r) : AW MX9_catches rmX9_catches l g x0 (.inl (some (.int (bi r.1)))) (moE g mo sz r.2) 0 0 (moE g mo sz S) 528 [(0, .ref mo), (5, .int a5), (6, .int a6), (7, .int a7), (8, .int a8), (9, .int a9), (10, .int a10)] [] := by
  rw [fX9_catches_528] at hf
  refine aw_goto 39 dX9_catches_528 (by decide) ?_
  refine aw_lv [0, 1, 2, 3, 4, 5, 6] rfl ?_
  exact hk39 _ _ _ _ _ _ _ hf
def fX9_catches_526 (k39 : MS → Int32 → Int32 → Int32 → Int32 → Int32 → Int32 → Option (Bool × MS)) (S : MS) (a5 : Int32) (a6 : Int32) (a7 : Int32) (a8 : Int32) (a9 : Int32) (s0 : Int32) : Option (Bool × MS) :=
  fX9_catches_528 k39 S a5 a6 a7 a8 a9 s0
set_option maxHeartbeats 4000000 in
set_option maxRecDepth 100000 in
theorem wkX9_catches_526 {l : Launch} {g : xG} {x0 : xV} {mo sz : Nat} (hl : l.stackTraces = false) {r : Bool × MS} (k39 : MS → Int32 → Int32 → Int32 → Int32 → Int32 → Int32 → Option (Bool × MS)) (hk39 : ∀ (S : MS) (a5 : Int32) (a6 : Int32) (a7 : Int32) (a8 : Int32) (a9 : Int32) (a10 : Int32), k39 S a5 a6 a7 a8 a9 a10 = some r → AW MX9_catches rmX9_catches l g x0 (.inl (some (.int (bi r.1)))) (moE g mo sz r.2) 0 0 (moE g mo sz S) 39 [(0, .ref mo), (5, .int a5), (6, .int a6), (7, .int a7), (8, .int a8), (9, .int a9), (10, .int a10)] []) (S : MS) (a5 : Int32) (a6 : Int32) (a7 : Int32) (a8 : Int32) (a9 : Int32) (s0 : Int32) (hf : fX9_catches_526 k39 S a5 a6 a7 a8 a9 s0 = some r) : AW MX9_catches rmX9_catches l g x0 (.inl (some (.int (bi r.1)))) (moE g mo sz r.2) 0 0 (moE g mo sz S) 526 [(0, .ref mo), (5, .int a5), (6, .int a6), (7, .int a7), (8, .int a8), (9, .int a9)] [.int s0] := by
  rw [fX9_catches_526] at hf
  refine aw_istore [(10, .int s0), (0, .ref mo), (5, .int a5), (6, .int a6), (7, .int a7), (8, .int a8), (9, .int a9)] dX9_catches_526 (by decide) rfl ?_
  refine aw_lv [1, 2, 3, 4, 5, 6, 0] rfl ?_
  exact wkX9_catches_528 hl _ hk39 _ _ _ _ _ _ _ hf
def fX9_catches_456 (k39 : MS → Int32 → Int32 → Int32 → Int32 → Int32 → Int32 → Option (Bool × MS)) (S : MS) (a5 : Int32) (a6 : Int32) (a7 : Int32) (a8 : Int32) (a9 : Int32) : Option (Bool × MS) :=
  (if xin a9 10 = true then (if xin (a9 + (1 : Int32)) 10 = true then (some (ms_J (ms_I S 27 a9.toNatClampNeg (0 : Int32)) 21 (a9 + (1 : Int32)).toNatClampNeg (m_j (ms_I S 27 a9.toNatClampNeg (0 : Int32)) 25))).bind fun W3 => fX9_catches_528 k39 (ms_J W3 22 (a9 + (1 : Int32)).toNatClampNeg (m_j W3 26)) a5 a6 a7 a8 (a9 + (1 : Int32)) (0 : Int32) else none) else none)
set_option maxHeartbeats 4000000 in
set_option maxRecDepth 100000 in
theorem wkX9_catches_456 {l : Launch} {g : xG} {x0 : xV} {mo sz : Nat} (hl : l.stackTraces = false) {r : Bool × MS} (k39 : MS → Int32 → Int32 → Int32 → Int32 → Int32 → Int32 → Option (Bool × MS)) (hk39 : ∀ (S : MS) (a5 : Int32) (a6 : Int32) (a7 : Int32) (a8 : Int32) (a9 : Int32) (a10 : Int32), k39 S a5 a6 a7 a8 a9 a10 = some r → AW MX9_catches rmX9_catches l g x0 (.inl (some (.int (bi r.1)))) (moE g mo sz r.2) 0 0 (moE g mo sz S) 39 [(0, .ref mo), (5, .int a5), (6, .int a6), (7, .int a7), (8, .int a8), (9, .int a9), (10, .int a10)] []) (S : MS) (a5 : Int32) (a6 : Int32) (a7 : Int32) (a8 : Int32) (a9 : Int32) (hf : fX9_catches_456 k39 S a5 a6 a7 a8 a9 = some r) : AW MX9_catches rmX9_catches l g x0 (.inl (some (.int (bi r.1)))) (moE g mo sz r.2) 0 0 (moE g mo sz S) 456 [(0, .ref mo), (5, .int a5), (6, .int a6), (7, .int a7), (8, .int a8), (9, .int a9)] [] := by
  rw [fX9_catches_456] at hf
  refine aw_aload_n 0 dX9_catches_456 rfl ?_
  refine mo_getR 35 27 rfl (by decide) (wl4 (i := 133) rfl rfl) dX9_catches_457 ?_
  refine aw_iload 5 dX9_catches_460 rfl ?_
  refine aw_iconst (0 : Int32) dX9_catches_462 (by decide) ?_
  obtain ⟨hi1, hf⟩ := xifn hf
  refine mo_zast 27 10 rfl rfl (xin_v hi1) dX9_catches_463 ?_
  refine aw_iinc [(9, .int (a9 + (1 : Int32))), (0, .ref mo), (5, .int a5), (6, .int a6), (7, .int a7), (8, .int a8)] 5 dX9_catches_464 rfl rfl (by decide) rfl ?_
  refine aw_aload_n 1 dX9_catches_467 rfl ?_
  refine mo_getR 29 21 rfl (by decide) (wl4 (i := 127) rfl rfl) dX9_catches_468 ?_
  refine aw_iload 0 dX9_catches_471 rfl ?_
  refine aw_aload_n 1 dX9_catches_473 rfl ?_
  refine mo_getJ 25 rfl (by decide) (wl4 (i := 123) rfl rfl) dX9_catches_474 ?_
  obtain ⟨hi2, hf⟩ := xifn hf
  obtain ⟨W3, hW3, hf⟩ := xlet hf
  refine mo_last 21 10 rfl (xin_v hi2) dX9_catches_477 ?_
  rw [hW3]
  refine aw_aload_n 1 dX9_catches_478 rfl ?_
  refine mo_getR 30 22 rfl (by decide) (wl4 (i := 128) rfl rfl) dX9_catches_479 ?_
  refine aw_iload 0 dX9_catches_482 rfl ?_
  refine aw_aload_n 1 dX9_catches_484 rfl ?_
  refine mo_getJ 26 rfl (by decide) (wl4 (i := 124) rfl rfl) dX9_catches_485 ?_
  refine mo_last 22 10 rfl (xin_v hi2) dX9_catches_488 ?_
  refine aw_iconst (0 : Int32) dX9_catches_489 (by decide) ?_
  refine aw_istore [(10, .int (0 : Int32)), (9, .int (a9 + (1 : Int32))), (0, .ref mo), (5, .int a5), (6, .int a6), (7, .int a7), (8, .int a8)] dX9_catches_490 (by decide) rfl ?_
  refine aw_goto 528 dX9_catches_492 (by decide) ?_
  refine aw_lv [2, 3, 4, 5, 6, 1, 0] rfl ?_
  exact wkX9_catches_528 hl _ hk39 _ _ _ _ _ _ _ hf
def fX9_catches_375 (k39 : MS → Int32 → Int32 → Int32 → Int32 → Int32 → Int32 → Option (Bool × MS)) (S : MS) (a5 : Int32) (a6 : Int32) (a7 : Int32) (a8 : Int32) (a9 : Int32) : Option (Bool × MS) :=
  (if xin a9 10 = true then (some (ms_j (ms_j S 25 (m_J S 24 a9.toNatClampNeg)) 26 (m_J (ms_j S 25 (m_J S 24 a9.toNatClampNeg)) 25 a9.toNatClampNeg))).bind fun W2 => (if (m_I W2 27 a9.toNatClampNeg) = 0 then (fX9_lowest (m_J W2 26 a9.toNatClampNeg)).bind fun q4 => (fX9_puts W2 (m_J W2 24 a9.toNatClampNeg) (m_J W2 25 a9.toNatClampNeg) a8 q4).bind fun q5 => (some (ms_J q5 26 a9.toNatClampNeg ((m_J q5 26 a9.toNatClampNeg) &&& ((m_J q5 26 a9.toNatClampNeg) - (1 : Int64))))).bind fun W6 => fX9_catches_456 k39 W6 a5 a6 a7 a8 a9 else fX9_catches_456 k39 W2 a5 a6 a7 a8 a9) else none)
set_option maxHeartbeats 4000000 in
set_option maxRecDepth 100000 in
theorem wkX9_catches_375 {l : Launch} {g : xG} {x0 : xV} {mo sz : Nat} (hl : l.stackTraces = false) {r : Bool × MS} (k39 : MS → Int32 → Int32 → Int32 → Int32 → Int32 → Int32 → Option (Bool × MS)) (hk39 : ∀ (S : MS) (a5 : Int32) (a6 : Int32) (a7 : Int32) (a8 : Int32) (a9 : Int32) (a10 : Int32), k39 S a5 a6 a7 a8 a9 a10 = some r → AW MX9_catches rmX9_catches l g x0 (.inl (some (.int (bi r.1)))) (moE g mo sz r.2) 0 0 (moE g mo sz S) 39 [(0, .ref mo), (5, .int a5), (6, .int a6), (7, .int a7), (8, .int a8), (9, .int a9), (10, .int a10)] []) (S : MS) (a5 : Int32) (a6 : Int32) (a7 : Int32) (a8 : Int32) (a9 : Int32) (hf : fX9_catches_375 k39 S a5 a6 a7 a8 a9 = some r) : AW MX9_catches rmX9_catches l g x0 (.inl (some (.int (bi r.1)))) (moE g mo sz r.2) 0 0 (moE g mo sz S) 375 [(0, .ref mo), (5, .int a5), (6, .int a6), (7, .int a7), (8, .int a8), (9, .int a9)] [] := by
  rw [fX9_catches_375] at hf
  refine aw_aload_n 0 dX9_catches_375 rfl ?_
  refine aw_aload_n 0 dX9_catches_376 rfl ?_
  refine mo_getR 32 24 rfl (by decide) (wl4 (i := 130) rfl rfl) dX9_catches_377 ?_
  refine aw_iload 5 dX9_catches_380 rfl ?_
  obtain ⟨hi1, hf⟩ := xifn hf
  refine mo_lald 24 10 rfl (xin_v hi1) dX9_catches_382 ?_
  refine mo_putJ 25 rfl (by decide) rfl rfl (wl4 (i := 123) rfl rfl) dX9_catches_383 ?_
  refine aw_aload_n 0 dX9_catches_386 rfl ?_
  refine aw_aload_n 0 dX9_catches_387 rfl ?_
  refine mo_getR 33 25 rfl (by decide) (wl4 (i := 131) rfl rfl) dX9_catches_388 ?_
  refine aw_iload 5 dX9_catches_391 rfl ?_
  refine mo_lald 25 10 rfl (xin_v hi1) dX9_catches_393 ?_
  obtain ⟨W2, hW2, hf⟩ := xlet hf
  refine mo_putJ 26 rfl (by decide) rfl rfl (wl4 (i := 124) rfl rfl) dX9_catches_394 ?_
  rw [hW2]
  refine aw_aload_n 0 dX9_catches_397 rfl ?_
  refine mo_getR 35 27 rfl (by decide) (wl4 (i := 133) rfl rfl) dX9_catches_398 ?_
  refine aw_iload 5 dX9_catches_401 rfl ?_
  refine mo_zald 27 10 rfl (xin_v hi1) dX9_catches_403 ?_
  refine aw_if_ne 456 dX9_catches_404 (by decide) (fun c3 => ?_) (fun c3 => ?_)
  · rw [if_neg c3] at hf
    refine aw_lv [0, 1, 2, 3, 4, 5] rfl ?_
    exact wkX9_catches_456 hl _ hk39 _ _ _ _ _ _ hf
  · rw [if_pos c3] at hf
    refine aw_aload_n 0 dX9_catches_407 rfl ?_
    refine aw_aload_n 0 dX9_catches_408 rfl ?_
    refine mo_getR 32 24 rfl (by decide) (wl4 (i := 130) rfl rfl) dX9_catches_409 ?_
    refine aw_iload 5 dX9_catches_412 rfl ?_
    refine mo_lald 24 10 rfl (xin_v hi1) dX9_catches_414 ?_
    refine aw_aload_n 0 dX9_catches_415 rfl ?_
    refine mo_getR 33 25 rfl (by decide) (wl4 (i := 131) rfl rfl) dX9_catches_416 ?_
    refine aw_iload 5 dX9_catches_419 rfl ?_
    refine mo_lald 25 10 rfl (xin_v hi1) dX9_catches_421 ?_
    refine aw_iload 4 dX9_catches_422 rfl ?_
    refine aw_aload_n 0 dX9_catches_424 rfl ?_
    refine mo_getR 34 26 rfl (by decide) (wl4 (i := 132) rfl rfl) dX9_catches_425 ?_
    refine aw_iload 5 dX9_catches_428 rfl ?_
    refine mo_lald 26 10 rfl (xin_v hi1) dX9_catches_430 ?_
    obtain ⟨q4, hq4, hf⟩ := xbind hf
    refine aw_callS [.long (m_J W2 26 a9.toNatClampNeg)] 1 (ctX9_lowest hl _ hq4) ⟨wl5 (i := 223) rfl rfl, ciX9_lowest⟩ (wl5 (i := 224) rfl rfl) dX9_catches_431 rfl rfl (Nat.le_of_ble_eq_true rfl) ⟨Nat.le_of_ble_eq_true rfl, Nat.le_of_ble_eq_true rfl⟩ ⟨Nat.le_of_ble_eq_true rfl, Nat.le_of_ble_eq_true rfl⟩ ?_
    obtain ⟨q5, hq5, hf⟩ := xbind hf
    refine aw_callV 7 (some mo) [.long (m_J W2 24 a9.toNatClampNeg), .long (m_J W2 25 a9.toNatClampNeg), .int a8, .int q4] 4 rfl mo_ob rfl rfl (ctX9_puts hl _ _ _ _ _ hq5) ⟨wl5 (i := 81) rfl rfl, ciX9_puts⟩ (wl5 (i := 83) rfl rfl) (wl0 (i := 30) rfl rfl) dX9_catches_434 rfl rfl (Nat.le_of_ble_eq_true rfl) ⟨Nat.le_of_ble_eq_true rfl, Nat.le_of_ble_eq_true rfl⟩ ⟨Nat.le_of_ble_eq_true rfl, Nat.le_of_ble_eq_true rfl⟩ ?_
    refine aw_aload_n 0 dX9_catches_437 rfl ?_
    refine mo_getR 34 26 rfl (by decide) (wl4 (i := 132) rfl rfl) dX9_catches_438 ?_
    refine aw_iload 5 dX9_catches_441 rfl ?_
    refine aw_dup2 dX9_catches_443 rfl rfl ?_
    refine mo_lald 26 10 rfl (xin_v hi1) dX9_catches_444 ?_
    refine aw_aload_n 0 dX9_catches_445 rfl ?_
    refine mo_getR 34 26 rfl (by decide) (wl4 (i := 132) rfl rfl) dX9_catches_446 ?_
    refine aw_iload 5 dX9_catches_449 rfl ?_
    refine mo_lald 26 10 rfl (xin_v hi1) dX9_catches_451 ?_
    refine aw_lconst (1 : Int64) dX9_catches_452 (by decide) ?_
    refine aw_lsub dX9_catches_453 ?_
    refine aw_land dX9_catches_454 ?_
    obtain ⟨W6, hW6, hf⟩ := xlet hf
    refine mo_last 26 10 rfl (xin_v hi1) dX9_catches_455 ?_
    rw [hW6]
    refine aw_lv [0, 1, 2, 3, 4, 5] rfl ?_
    exact wkX9_catches_456 hl _ hk39 _ _ _ _ _ _ hf
def fX9_catches_334 (k39 : MS → Int32 → Int32 → Int32 → Int32 → Int32 → Int32 → Option (Bool × MS)) (S : MS) (a5 : Int32) (a6 : Int32) (a7 : Int32) (a8 : Int32) (a9 : Int32) (s1 : Int32) (s2 : Int32) : Option (Bool × MS) :=
  (if xin s1 10 = true then (xbool s2).bind fun b2 => fX9_catches_528 k39 (ms_I S 27 s1.toNatClampNeg (bi b2)) a5 a6 a7 a8 a9 (2 : Int32) else none)
set_option maxHeartbeats 4000000 in
set_option maxRecDepth 100000 in
theorem wkX9_catches_334 {l : Launch} {g : xG} {x0 : xV} {mo sz : Nat} (hl : l.stackTraces = false) {r : Bool × MS} (k39 : MS → Int32 → Int32 → Int32 → Int32 → Int32 → Int32 → Option (Bool × MS)) (hk39 : ∀ (S : MS) (a5 : Int32) (a6 : Int32) (a7 : Int32) (a8 : Int32) (a9 : Int32) (a10 : Int32), k39 S a5 a6 a7 a8 a9 a10 = some r → AW MX9_catches rmX9_catches l g x0 (.inl (some (.int (bi r.1)))) (moE g mo sz r.2) 0 0 (moE g mo sz S) 39 [(0, .ref mo), (5, .int a5), (6, .int a6), (7, .int a7), (8, .int a8), (9, .int a9), (10, .int a10)] []) (S : MS) (a5 : Int32) (a6 : Int32) (a7 : Int32) (a8 : Int32) (a9 : Int32) (s1 : Int32) (s2 : Int32) (hf : fX9_catches_334 k39 S a5 a6 a7 a8 a9 s1 s2 = some r) : AW MX9_catches rmX9_catches l g x0 (.inl (some (.int (bi r.1)))) (moE g mo sz r.2) 0 0 (moE g mo sz S) 334 [(0, .ref mo), (5, .int a5), (6, .int a6), (7, .int a7), (8, .int a8), (9, .int a9)] [.int s2, .int s1, .ref (mo + 1 + 27)] := by
  rw [fX9_catches_334] at hf
  obtain ⟨hi1, hf⟩ := xifn hf
  obtain ⟨b2, hb2, hf⟩ := xbind hf
  rw [xbool_eq hb2]
  refine mo_zast 27 10 (vpn_b _) rfl (xin_v hi1) dX9_catches_334 ?_
  refine aw_iconst (2 : Int32) dX9_catches_335 (by decide) ?_
  refine aw_istore [(10, .int (2 : Int32)), (0, .ref mo), (5, .int a5), (6, .int a6), (7, .int a7), (8, .int a8), (9, .int a9)] dX9_catches_336 (by decide) rfl ?_
  refine aw_goto 528 dX9_catches_338 (by decide) ?_
  refine aw_lv [1, 2, 3, 4, 5, 6, 0] rfl ?_
  exact wkX9_catches_528 hl _ hk39 _ _ _ _ _ _ _ hf
def fX9_catches_252 (k39 : MS → Int32 → Int32 → Int32 → Int32 → Int32 → Int32 → Option (Bool × MS)) (S : MS) (a5 : Int32) (a6 : Int32) (a7 : Int32) (a8 : Int32) (a9 : Int32) : Option (Bool × MS) :=
  (if xin a9 10 = true then (some (ms_J (ms_J S 24 a9.toNatClampNeg (m_j S 25)) 25 a9.toNatClampNeg (m_j (ms_J S 24 a9.toNatClampNeg (m_j S 25)) 26))).bind fun W2 => (fX9_replies (m_j W2 25) (m_j W2 26) a5 a8).bind fun q3 => (fX9_allowed W2 (m_j W2 25) (m_j W2 26) a8 q3).bind fun q4 => (if (m_J (ms_J q4.2 26 a9.toNatClampNeg q4.1) 26 a9.toNatClampNeg) = (0 : Int64) then fX9_catches_334 k39 (ms_J q4.2 26 a9.toNatClampNeg q4.1) a5 a6 a7 a8 a9 a9 (1 : Int32) else fX9_catches_334 k39 (ms_J q4.2 26 a9.toNatClampNeg q4.1) a5 a6 a7 a8 a9 a9 (0 : Int32)) else none)
set_option maxHeartbeats 4000000 in
set_option maxRecDepth 100000 in
theorem wkX9_catches_252 {l : Launch} {g : xG} {x0 : xV} {mo sz : Nat} (hl : l.stackTraces = false) {r : Bool × MS} (k39 : MS → Int32 → Int32 → Int32 → Int32 → Int32 → Int32 → Option (Bool × MS)) (hk39 : ∀ (S : MS) (a5 : Int32) (a6 : Int32) (a7 : Int32) (a8 : Int32) (a9 : Int32) (a10 : Int32), k39 S a5 a6 a7 a8 a9 a10 = some r → AW MX9_catches rmX9_catches l g x0 (.inl (some (.int (bi r.1)))) (moE g mo sz r.2) 0 0 (moE g mo sz S) 39 [(0, .ref mo), (5, .int a5), (6, .int a6), (7, .int a7), (8, .int a8), (9, .int a9), (10, .int a10)] []) (S : MS) (a5 : Int32) (a6 : Int32) (a7 : Int32) (a8 : Int32) (a9 : Int32) (hf : fX9_catches_252 k39 S a5 a6 a7 a8 a9 = some r) : AW MX9_catches rmX9_catches l g x0 (.inl (some (.int (bi r.1)))) (moE g mo sz r.2) 0 0 (moE g mo sz S) 252 [(0, .ref mo), (5, .int a5), (6, .int a6), (7, .int a7), (8, .int a8), (9, .int a9)] [] := by
  rw [fX9_catches_252] at hf
  refine aw_aload_n 0 dX9_catches_252 rfl ?_
  refine mo_getR 32 24 rfl (by decide) (wl4 (i := 130) rfl rfl) dX9_catches_253 ?_
  refine aw_iload 5 dX9_catches_256 rfl ?_
  refine aw_aload_n 0 dX9_catches_258 rfl ?_
  refine mo_getJ 25 rfl (by decide) (wl4 (i := 123) rfl rfl) dX9_catches_259 ?_
  obtain ⟨hi1, hf⟩ := xifn hf
  refine mo_last 24 10 rfl (xin_v hi1) dX9_catches_262 ?_
  refine aw_aload_n 0 dX9_catches_263 rfl ?_
  refine mo_getR 33 25 rfl (by decide) (wl4 (i := 131) rfl rfl) dX9_catches_264 ?_
  refine aw_iload 5 dX9_catches_267 rfl ?_
  refine aw_aload_n 0 dX9_catches_269 rfl ?_
  refine mo_getJ 26 rfl (by decide) (wl4 (i := 124) rfl rfl) dX9_catches_270 ?_
  obtain ⟨W2, hW2, hf⟩ := xlet hf
  refine mo_last 25 10 rfl (xin_v hi1) dX9_catches_273 ?_
  rw [hW2]
  refine aw_aload_n 0 dX9_catches_274 rfl ?_
  refine mo_getR 34 26 rfl (by decide) (wl4 (i := 132) rfl rfl) dX9_catches_275 ?_
  refine aw_iload 5 dX9_catches_278 rfl ?_
  refine aw_aload_n 0 dX9_catches_280 rfl ?_
  refine aw_aload_n 0 dX9_catches_281 rfl ?_
  refine mo_getJ 25 rfl (by decide) (wl4 (i := 123) rfl rfl) dX9_catches_282 ?_
  refine aw_aload_n 0 dX9_catches_285 rfl ?_
  refine mo_getJ 26 rfl (by decide) (wl4 (i := 124) rfl rfl) dX9_catches_286 ?_
  refine aw_iload 4 dX9_catches_289 rfl ?_
  refine aw_aload_n 0 dX9_catches_291 rfl ?_
  refine aw_aload_n 0 dX9_catches_292 rfl ?_
  refine mo_getJ 25 rfl (by decide) (wl4 (i := 123) rfl rfl) dX9_catches_293 ?_
  refine aw_aload_n 0 dX9_catches_296 rfl ?_
  refine mo_getJ 26 rfl (by decide) (wl4 (i := 124) rfl rfl) dX9_catches_297 ?_
  refine aw_iload 1 dX9_catches_300 rfl ?_
  refine aw_iload 4 dX9_catches_302 rfl ?_
  obtain ⟨q3, hq3, hf⟩ := xbind hf
  refine aw_callV 7 (some mo) [.long (m_j W2 25), .long (m_j W2 26), .int a5, .int a8] 4 rfl mo_ob rfl rfl (ctX9_replies hl _ _ _ _ hq3) ⟨wl5 (i := 226) rfl rfl, ciX9_replies⟩ (wl5 (i := 228) rfl rfl) (wl0 (i := 47) rfl rfl) dX9_catches_304 rfl rfl (Nat.le_of_ble_eq_true rfl) ⟨Nat.le_of_ble_eq_true rfl, Nat.le_of_ble_eq_true rfl⟩ ⟨Nat.le_of_ble_eq_true rfl, Nat.le_of_ble_eq_true rfl⟩ ?_
  obtain ⟨q4, hq4, hf⟩ := xbind hf
  refine aw_callV 7 (some mo) [.long (m_j W2 25), .long (m_j W2 26), .int a8, .long q3] 4 rfl mo_ob rfl rfl (ctX9_allowed hl _ _ _ _ _ hq4) ⟨wl5 (i := 230) rfl rfl, ciX9_allowed⟩ (wl5 (i := 232) rfl rfl) (wl0 (i := 48) rfl rfl) dX9_catches_307 rfl rfl (Nat.le_of_ble_eq_true rfl) ⟨Nat.le_of_ble_eq_true rfl, Nat.le_of_ble_eq_true rfl⟩ ⟨Nat.le_of_ble_eq_true rfl, Nat.le_of_ble_eq_true rfl⟩ ?_
  refine mo_last 26 10 rfl (xin_v hi1) dX9_catches_310 ?_
  refine aw_aload_n 0 dX9_catches_311 rfl ?_
  refine mo_getR 35 27 rfl (by decide) (wl4 (i := 133) rfl rfl) dX9_catches_312 ?_
  refine aw_iload 5 dX9_catches_315 rfl ?_
  refine aw_aload_n 0 dX9_catches_317 rfl ?_
  refine mo_getR 34 26 rfl (by decide) (wl4 (i := 132) rfl rfl) dX9_catches_318 ?_
  refine aw_iload 5 dX9_catches_321 rfl ?_
  refine mo_lald 26 10 rfl (xin_v hi1) dX9_catches_323 ?_
  refine aw_lconst (0 : Int64) dX9_catches_324 (by decide) ?_
  refine aw_lcmp_ne 333 dX9_catches_325 dX9_catches_326 (by decide) (fun c5 => ?_) (fun c5 => ?_)
  · rw [if_neg c5] at hf
    refine aw_iconst (0 : Int32) dX9_catches_333 (by decide) ?_
    refine aw_lv [0, 1, 2, 3, 4, 5] rfl ?_
    exact wkX9_catches_334 hl _ hk39 _ _ _ _ _ _ _ _ hf
  · rw [if_pos c5] at hf
    refine aw_iconst (1 : Int32) dX9_catches_329 (by decide) ?_
    refine aw_goto 334 dX9_catches_330 (by decide) ?_
    refine aw_lv [0, 1, 2, 3, 4, 5] rfl ?_
    exact wkX9_catches_334 hl _ hk39 _ _ _ _ _ _ _ _ hf
def fX9_catches_232 (k39 : MS → Int32 → Int32 → Int32 → Int32 → Int32 → Int32 → Option (Bool × MS)) (S : MS) (a5 : Int32) (a6 : Int32) (a7 : Int32) (a8 : Int32) (a9 : Int32) (a10 : Int32) (s0 : Int32) : Option (Bool × MS) :=
  (if s0 = (1 : Int32) then fX9_catches_252 k39 S a5 a6 a7 a8 a9 else (if s0 ≤ (1 : Int32) then fX9_catches_528 k39 S a5 a6 a7 a8 a9 a10 else (if a7 ≤ (2 : Int32) then fX9_catches_528 k39 S a5 a6 a7 a8 a9 a10 else fX9_catches_252 k39 S a5 a6 a7 a8 a9)))
set_option maxHeartbeats 4000000 in
set_option maxRecDepth 100000 in
theorem wkX9_catches_232 {l : Launch} {g : xG} {x0 : xV} {mo sz : Nat} (hl : l.stackTraces = false) {r : Bool × MS} (k39 : MS → Int32 → Int32 → Int32 → Int32 → Int32 → Int32 → Option (Bool × MS)) (hk39 : ∀ (S : MS) (a5 : Int32) (a6 : Int32) (a7 : Int32) (a8 : Int32) (a9 : Int32) (a10 : Int32), k39 S a5 a6 a7 a8 a9 a10 = some r → AW MX9_catches rmX9_catches l g x0 (.inl (some (.int (bi r.1)))) (moE g mo sz r.2) 0 0 (moE g mo sz S) 39 [(0, .ref mo), (5, .int a5), (6, .int a6), (7, .int a7), (8, .int a8), (9, .int a9), (10, .int a10)] []) (S : MS) (a5 : Int32) (a6 : Int32) (a7 : Int32) (a8 : Int32) (a9 : Int32) (a10 : Int32) (s0 : Int32) (hf : fX9_catches_232 k39 S a5 a6 a7 a8 a9 a10 s0 = some r) : AW MX9_catches rmX9_catches l g x0 (.inl (some (.int (bi r.1)))) (moE g mo sz r.2) 0 0 (moE g mo sz S) 232 [(0, .ref mo), (5, .int a5), (6, .int a6), (7, .int a7), (8, .int a8), (9, .int a9), (10, .int a10)] [.int s0] := by
  rw [fX9_catches_232] at hf
  refine aw_istore [(13, .int s0), (0, .ref mo), (5, .int a5), (6, .int a6), (7, .int a7), (8, .int a8), (9, .int a9), (10, .int a10)] dX9_catches_232 (by decide) rfl ?_
  refine aw_iload 0 dX9_catches_234 rfl ?_
  refine aw_iconst (1 : Int32) dX9_catches_236 (by decide) ?_
  refine aw_icmp_eq 252 dX9_catches_237 (by decide) (fun c1 => ?_) (fun c1 => ?_)
  · rw [if_pos c1] at hf
    refine aw_lv [1, 2, 3, 4, 5, 6] rfl ?_
    exact wkX9_catches_252 hl _ hk39 _ _ _ _ _ _ hf
  · rw [if_neg c1] at hf
    refine aw_iload 0 dX9_catches_240 rfl ?_
    refine aw_iconst (1 : Int32) dX9_catches_242 (by decide) ?_
    refine aw_icmp_le 338 dX9_catches_243 (by decide) (fun c2 => ?_) (fun c2 => ?_)
    · rw [if_pos c2] at hf
      refine aw_goto 528 dX9_catches_338 (by decide) ?_
      refine aw_lv [1, 2, 3, 4, 5, 6, 7] rfl ?_
      exact wkX9_catches_528 hl _ hk39 _ _ _ _ _ _ _ hf
    · rw [if_neg c2] at hf
      refine aw_iload 4 dX9_catches_246 rfl ?_
      refine aw_iconst (2 : Int32) dX9_catches_248 (by decide) ?_
      refine aw_icmp_le 338 dX9_catches_249 (by decide) (fun c3 => ?_) (fun c3 => ?_)
      · rw [if_pos c3] at hf
        refine aw_goto 528 dX9_catches_338 (by decide) ?_
        refine aw_lv [1, 2, 3, 4, 5, 6, 7] rfl ?_
        exact wkX9_catches_528 hl _ hk39 _ _ _ _ _ _ _ hf
      · rw [if_neg c3] at hf
        refine aw_lv [1, 2, 3, 4, 5, 6] rfl ?_
        exact wkX9_catches_252 hl _ hk39 _ _ _ _ _ _ hf
def fX9_catches_123 (k39 : MS → Int32 → Int32 → Int32 → Int32 → Int32 → Int32 → Option (Bool × MS)) (S : MS) (a5 : Int32) (a6 : Int32) (a7 : Int32) (a8 : Int32) (a9 : Int32) (s0 : Int32) : Option (Bool × MS) :=
  fX9_catches_528 k39 S a5 a6 a7 a8 a9 s0
set_option maxHeartbeats 4000000 in
set_option maxRecDepth 100000 in
theorem wkX9_catches_123 {l : Launch} {g : xG} {x0 : xV} {mo sz : Nat} (hl : l.stackTraces = false) {r : Bool × MS} (k39 : MS → Int32 → Int32 → Int32 → Int32 → Int32 → Int32 → Option (Bool × MS)) (hk39 : ∀ (S : MS) (a5 : Int32) (a6 : Int32) (a7 : Int32) (a8 : Int32) (a9 : Int32) (a10 : Int32), k39 S a5 a6 a7 a8 a9 a10 = some r → AW MX9_catches rmX9_catches l g x0 (.inl (some (.int (bi r.1)))) (moE g mo sz r.2) 0 0 (moE g mo sz S) 39 [(0, .ref mo), (5, .int a5), (6, .int a6), (7, .int a7), (8, .int a8), (9, .int a9), (10, .int a10)] []) (S : MS) (a5 : Int32) (a6 : Int32) (a7 : Int32) (a8 : Int32) (a9 : Int32) (s0 : Int32) (hf : fX9_catches_123 k39 S a5 a6 a7 a8 a9 s0 = some r) : AW MX9_catches rmX9_catches l g x0 (.inl (some (.int (bi r.1)))) (moE g mo sz r.2) 0 0 (moE g mo sz S) 123 [(0, .ref mo), (5, .int a5), (6, .int a6), (7, .int a7), (8, .int a8), (9, .int a9)] [.int s0] := by
  rw [fX9_catches_123] at hf
  refine aw_istore [(10, .int s0), (0, .ref mo), (5, .int a5), (6, .int a6), (7, .int a7), (8, .int a8), (9, .int a9)] dX9_catches_123 (by decide) rfl ?_
  refine aw_goto 528 dX9_catches_125 (by decide) ?_
  refine aw_lv [1, 2, 3, 4, 5, 6, 0] rfl ?_
  exact wkX9_catches_528 hl _ hk39 _ _ _ _ _ _ _ hf
def fX9_catches_111 (k39 : MS → Int32 → Int32 → Int32 → Int32 → Int32 → Int32 → Option (Bool × MS)) (S : MS) (a5 : Int32) (a6 : Int32) (a7 : Int32) (a8 : Int32) (a9 : Int32) (a12 : Int32) (s1 : Int32) (s2 : Int64) : Option (Bool × MS) :=
  (if xin s1 10 = true then (if a12 = (1 : Int32) then fX9_catches_123 k39 (ms_J S 23 s1.toNatClampNeg s2) a5 a6 a7 a8 a9 (3 : Int32) else fX9_catches_123 k39 (ms_J S 23 s1.toNatClampNeg s2) a5 a6 a7 a8 a9 (1 : Int32)) else none)
set_option maxHeartbeats 4000000 in
set_option maxRecDepth 100000 in
theorem wkX9_catches_111 {l : Launch} {g : xG} {x0 : xV} {mo sz : Nat} (hl : l.stackTraces = false) {r : Bool × MS} (k39 : MS → Int32 → Int32 → Int32 → Int32 → Int32 → Int32 → Option (Bool × MS)) (hk39 : ∀ (S : MS) (a5 : Int32) (a6 : Int32) (a7 : Int32) (a8 : Int32) (a9 : Int32) (a10 : Int32), k39 S a5 a6 a7 a8 a9 a10 = some r → AW MX9_catches rmX9_catches l g x0 (.inl (some (.int (bi r.1)))) (moE g mo sz r.2) 0 0 (moE g mo sz S) 39 [(0, .ref mo), (5, .int a5), (6, .int a6), (7, .int a7), (8, .int a8), (9, .int a9), (10, .int a10)] []) (S : MS) (a5 : Int32) (a6 : Int32) (a7 : Int32) (a8 : Int32) (a9 : Int32) (a12 : Int32) (s1 : Int32) (s2 : Int64) (hf : fX9_catches_111 k39 S a5 a6 a7 a8 a9 a12 s1 s2 = some r) : AW MX9_catches rmX9_catches l g x0 (.inl (some (.int (bi r.1)))) (moE g mo sz r.2) 0 0 (moE g mo sz S) 111 [(0, .ref mo), (5, .int a5), (6, .int a6), (7, .int a7), (8, .int a8), (9, .int a9), (12, .int a12)] [.long s2, .int s1, .ref (mo + 1 + 23)] := by
  rw [fX9_catches_111] at hf
  obtain ⟨hi1, hf⟩ := xifn hf
  refine mo_last 23 10 rfl (xin_v hi1) dX9_catches_111 ?_
  refine aw_iload 6 dX9_catches_112 rfl ?_
  refine aw_iconst (1 : Int32) dX9_catches_114 (by decide) ?_
  refine aw_icmp_ne 122 dX9_catches_115 (by decide) (fun c2 => ?_) (fun c2 => ?_)
  · rw [if_neg c2] at hf
    refine aw_iconst (1 : Int32) dX9_catches_122 (by decide) ?_
    refine aw_lv [0, 1, 2, 3, 4, 5] rfl ?_
    exact wkX9_catches_123 hl _ hk39 _ _ _ _ _ _ _ hf
  · rw [if_pos c2] at hf
    refine aw_iconst (3 : Int32) dX9_catches_118 (by decide) ?_
    refine aw_goto 123 dX9_catches_119 (by decide) ?_
    refine aw_lv [0, 1, 2, 3, 4, 5] rfl ?_
    exact wkX9_catches_123 hl _ hk39 _ _ _ _ _ _ _ hf
def fX9_catches_39 : Nat → MS → Int32 → Int32 → Int32 → Int32 → Int32 → Int32 → Option (Bool × MS)
  | 0, _, _, _, _, _, _, _ => none
  | n + 1, S, a5, a6, a7, a8, a9, a10 =>
    (if a10 = 0 then (if xin a9 10 = true then (fX9_libertiesAt (m_J S 21 a9.toNatClampNeg) (m_J S 22 a9.toNatClampNeg) a5).bind fun q18 => (if (a6 - a9) ≤ (1 : Int32) then fX9_catches_111 (fX9_catches_39 n) S a5 a6 a7 a8 a9 q18 a9 (0 : Int64) else (fX9_attacks (m_J S 21 a9.toNatClampNeg) (m_J S 22 a9.toNatClampNeg) a5 a7).bind fun q20 => fX9_catches_111 (fX9_catches_39 n) S a5 a6 a7 a8 a9 q18 a9 q20) else none) else (if a10 = (1 : Int32) then (if xin a9 10 = true then (if (m_J S 23 a9.toNatClampNeg) = (0 : Int64) then fX9_catches_528 (fX9_catches_39 n) S a5 a6 a7 a8 a9 (4 : Int32) else (fX9_lowest (m_J S 23 a9.toNatClampNeg)).bind fun q12 => (some (ms_J S 23 a9.toNatClampNeg ((m_J S 23 a9.toNatClampNeg) &&& ((m_J S 23 a9.toNatClampNeg) - (1 : Int64))))).bind fun W13 => (fX9_puts W13 (m_J W13 21 a9.toNatClampNeg) (m_J W13 22 a9.toNatClampNeg) ((1 : Int32) - a8) q12).bind fun q14 => (if (m_i q14 28) = 0 then (fX9_libertiesAt (m_j q14 25) (m_j q14 26) a5).bind fun q16 => fX9_catches_232 (fX9_catches_39 n) q14 a5 a6 a7 a8 a9 a10 q16 else fX9_catches_232 (fX9_catches_39 n) q14 a5 a6 a7 a8 a9 a10 (0 : Int32))) else none) else (if a10 = (2 : Int32) then (if xin a9 10 = true then (if (m_J S 26 a9.toNatClampNeg) = (0 : Int64) then (if (m_I S 27 a9.toNatClampNeg) = 0 then fX9_catches_528 (fX9_catches_39 n) S a5 a6 a7 a8 a9 (3 : Int32) else fX9_catches_375 (fX9_catches_39 n) S a5 a6 a7 a8 a9) else fX9_catches_375 (fX9_catches_39 n) S a5 a6 a7 a8 a9) else none) else (if a9 = 0 then (if a10 = (3 : Int32) then some (true, S) else some (false, S)) else (if a10 = (3 : Int32) then fX9_catches_526 (fX9_catches_39 n) S a5 a6 a7 a8 (a9 + (-1 : Int32)) (2 : Int32) else fX9_catches_526 (fX9_catches_39 n) S a5 a6 a7 a8 (a9 + (-1 : Int32)) (1 : Int32))))))
set_option maxHeartbeats 4000000 in
set_option maxRecDepth 100000 in
theorem wkX9_catches_39 {l : Launch} {g : xG} {x0 : xV} {mo sz : Nat} (hl : l.stackTraces = false) {r : Bool × MS} : ∀ (n : Nat) (S : MS) (a5 : Int32) (a6 : Int32) (a7 : Int32) (a8 : Int32) (a9 : Int32) (a10 : Int32), fX9_catches_39 n S a5 a6 a7 a8 a9 a10 = some r → AW MX9_catches rmX9_catches l g x0 (.inl (some (.int (bi r.1)))) (moE g mo sz r.2) 0 0 (moE g mo sz S) 39 [(0, .ref mo), (5, .int a5), (6, .int a6), (7, .int a7), (8, .int a8), (9, .int a9), (10, .int a10)] [] := by
  intro n
  induction n with
  | zero => intro S a5 a6 a7 a8 a9 a10 hf; exact absurd hf (by simp [fX9_catches_39])
  | succ n hk39 =>
    intro S a5 a6 a7 a8 a9 a10 hf
    rw [fX9_catches_39] at hf
    refine aw_iload 2 dX9_catches_39 rfl ?_
    refine aw_iload 5 dX9_catches_41 rfl ?_
    refine aw_isub dX9_catches_43 ?_
    refine aw_istore [(11, .int (a6 - a9)), (0, .ref mo), (5, .int a5), (6, .int a6), (7, .int a7), (8, .int a8), (9, .int a9), (10, .int a10)] dX9_catches_44 (by decide) rfl ?_
    refine aw_iload 7 dX9_catches_46 rfl ?_
    refine aw_if_ne 128 dX9_catches_48 (by decide) (fun c1 => ?_) (fun c1 => ?_)
    · rw [if_neg c1] at hf
      refine aw_iload 7 dX9_catches_128 rfl ?_
      refine aw_iconst (1 : Int32) dX9_catches_130 (by decide) ?_
      refine aw_icmp_ne 341 dX9_catches_131 (by decide) (fun c2 => ?_) (fun c2 => ?_)
      · rw [if_neg c2] at hf
        refine aw_iload 7 dX9_catches_341 rfl ?_
        refine aw_iconst (2 : Int32) dX9_catches_343 (by decide) ?_
        refine aw_icmp_ne 495 dX9_catches_344 (by decide) (fun c3 => ?_) (fun c3 => ?_)
        · rw [if_neg c3] at hf
          refine aw_iload 6 dX9_catches_495 rfl ?_
          refine aw_if_ne 512 dX9_catches_497 (by decide) (fun c4 => ?_) (fun c4 => ?_)
          · rw [if_neg c4] at hf
            refine aw_iinc [(9, .int (a9 + (-1 : Int32))), (11, .int (a6 - a9)), (0, .ref mo), (5, .int a5), (6, .int a6), (7, .int a7), (8, .int a8), (10, .int a10)] 6 dX9_catches_512 rfl rfl (by decide) rfl ?_
            refine aw_iload 7 dX9_catches_515 rfl ?_
            refine aw_iconst (3 : Int32) dX9_catches_517 (by decide) ?_
            refine aw_icmp_ne 525 dX9_catches_518 (by decide) (fun c5 => ?_) (fun c5 => ?_)
            · rw [if_neg c5] at hf
              refine aw_iconst (1 : Int32) dX9_catches_525 (by decide) ?_
              refine aw_lv [2, 3, 4, 5, 6, 0] rfl ?_
              exact wkX9_catches_526 hl _ hk39 _ _ _ _ _ _ _ hf
            · rw [if_pos c5] at hf
              refine aw_iconst (2 : Int32) dX9_catches_521 (by decide) ?_
              refine aw_goto 526 dX9_catches_522 (by decide) ?_
              refine aw_lv [2, 3, 4, 5, 6, 0] rfl ?_
              exact wkX9_catches_526 hl _ hk39 _ _ _ _ _ _ _ hf
          · rw [if_pos c4] at hf
            refine aw_iload 7 dX9_catches_500 rfl ?_
            refine aw_iconst (3 : Int32) dX9_catches_502 (by decide) ?_
            refine aw_icmp_ne 510 dX9_catches_503 (by decide) (fun c6 => ?_) (fun c6 => ?_)
            · rw [if_neg c6] at hf
              refine aw_iconst (0 : Int32) dX9_catches_510 (by decide) ?_
              cases hf
              exact aw_zret dX9_catches_511 rfl rfl rfl rfl ⟨Nat.le_of_ble_eq_true rfl, Nat.le_of_ble_eq_true rfl⟩
            · rw [if_pos c6] at hf
              refine aw_iconst (1 : Int32) dX9_catches_506 (by decide) ?_
              refine aw_goto 511 dX9_catches_507 (by decide) ?_
              cases hf
              exact aw_zret dX9_catches_511 rfl rfl rfl rfl ⟨Nat.le_of_ble_eq_true rfl, Nat.le_of_ble_eq_true rfl⟩
        · rw [if_pos c3] at hf
          refine aw_aload_n 1 dX9_catches_347 rfl ?_
          refine mo_getR 34 26 rfl (by decide) (wl4 (i := 132) rfl rfl) dX9_catches_348 ?_
          refine aw_iload 6 dX9_catches_351 rfl ?_
          obtain ⟨hi7, hf⟩ := xifn hf
          refine mo_lald 26 10 rfl (xin_v hi7) dX9_catches_353 ?_
          refine aw_lconst (0 : Int64) dX9_catches_354 (by decide) ?_
          refine aw_lcmp_ne 375 dX9_catches_355 dX9_catches_356 (by decide) (fun c8 => ?_) (fun c8 => ?_)
          · rw [if_neg c8] at hf
            refine aw_lv [1, 2, 3, 4, 5, 6] rfl ?_
            exact wkX9_catches_375 hl _ hk39 _ _ _ _ _ _ hf
          · rw [if_pos c8] at hf
            refine aw_aload_n 1 dX9_catches_359 rfl ?_
            refine mo_getR 35 27 rfl (by decide) (wl4 (i := 133) rfl rfl) dX9_catches_360 ?_
            refine aw_iload 6 dX9_catches_363 rfl ?_
            refine mo_zald 27 10 rfl (xin_v hi7) dX9_catches_365 ?_
            refine aw_if_ne 375 dX9_catches_366 (by decide) (fun c9 => ?_) (fun c9 => ?_)
            · rw [if_neg c9] at hf
              refine aw_lv [1, 2, 3, 4, 5, 6] rfl ?_
              exact wkX9_catches_375 hl _ hk39 _ _ _ _ _ _ hf
            · rw [if_pos c9] at hf
              refine aw_iconst (3 : Int32) dX9_catches_369 (by decide) ?_
              refine aw_istore [(10, .int (3 : Int32)), (11, .int (a6 - a9)), (0, .ref mo), (5, .int a5), (6, .int a6), (7, .int a7), (8, .int a8), (9, .int a9)] dX9_catches_370 (by decide) rfl ?_
              refine aw_goto 528 dX9_catches_372 (by decide) ?_
              refine aw_lv [2, 3, 4, 5, 6, 7, 0] rfl ?_
              exact wkX9_catches_528 hl _ hk39 _ _ _ _ _ _ _ hf
      · rw [if_pos c2] at hf
        refine aw_aload_n 1 dX9_catches_134 rfl ?_
        refine mo_getR 31 23 rfl (by decide) (wl4 (i := 129) rfl rfl) dX9_catches_135 ?_
        refine aw_iload 6 dX9_catches_138 rfl ?_
        obtain ⟨hi10, hf⟩ := xifn hf
        refine mo_lald 23 10 rfl (xin_v hi10) dX9_catches_140 ?_
        refine aw_lconst (0 : Int64) dX9_catches_141 (by decide) ?_
        refine aw_lcmp_ne 152 dX9_catches_142 dX9_catches_143 (by decide) (fun c11 => ?_) (fun c11 => ?_)
        · rw [if_neg c11] at hf
          refine aw_aload_n 1 dX9_catches_152 rfl ?_
          refine mo_getR 31 23 rfl (by decide) (wl4 (i := 129) rfl rfl) dX9_catches_153 ?_
          refine aw_iload 6 dX9_catches_156 rfl ?_
          refine mo_lald 23 10 rfl (xin_v hi10) dX9_catches_158 ?_
          obtain ⟨q12, hq12, hf⟩ := xbind hf
          refine aw_callS [.long (m_J S 23 a9.toNatClampNeg)] 1 (ctX9_lowest hl _ hq12) ⟨wl5 (i := 223) rfl rfl, ciX9_lowest⟩ (wl5 (i := 224) rfl rfl) dX9_catches_159 rfl rfl (Nat.le_of_ble_eq_true rfl) ⟨Nat.le_of_ble_eq_true rfl, Nat.le_of_ble_eq_true rfl⟩ ⟨Nat.le_of_ble_eq_true rfl, Nat.le_of_ble_eq_true rfl⟩ ?_
          refine aw_istore [(12, .int q12), (11, .int (a6 - a9)), (0, .ref mo), (5, .int a5), (6, .int a6), (7, .int a7), (8, .int a8), (9, .int a9), (10, .int a10)] dX9_catches_162 (by decide) rfl ?_
          refine aw_aload_n 2 dX9_catches_164 rfl ?_
          refine mo_getR 31 23 rfl (by decide) (wl4 (i := 129) rfl rfl) dX9_catches_165 ?_
          refine aw_iload 7 dX9_catches_168 rfl ?_
          refine aw_dup2 dX9_catches_170 rfl rfl ?_
          refine mo_lald 23 10 rfl (xin_v hi10) dX9_catches_171 ?_
          refine aw_aload_n 2 dX9_catches_172 rfl ?_
          refine mo_getR 31 23 rfl (by decide) (wl4 (i := 129) rfl rfl) dX9_catches_173 ?_
          refine aw_iload 7 dX9_catches_176 rfl ?_
          refine mo_lald 23 10 rfl (xin_v hi10) dX9_catches_178 ?_
          refine aw_lconst (1 : Int64) dX9_catches_179 (by decide) ?_
          refine aw_lsub dX9_catches_180 ?_
          refine aw_land dX9_catches_181 ?_
          obtain ⟨W13, hW13, hf⟩ := xlet hf
          refine mo_last 23 10 rfl (xin_v hi10) dX9_catches_182 ?_
          rw [hW13]
          refine aw_aload_n 2 dX9_catches_183 rfl ?_
          refine aw_aload_n 2 dX9_catches_184 rfl ?_
          refine mo_getR 29 21 rfl (by decide) (wl4 (i := 127) rfl rfl) dX9_catches_185 ?_
          refine aw_iload 7 dX9_catches_188 rfl ?_
          refine mo_lald 21 10 rfl (xin_v hi10) dX9_catches_190 ?_
          refine aw_aload_n 2 dX9_catches_191 rfl ?_
          refine mo_getR 30 22 rfl (by decide) (wl4 (i := 128) rfl rfl) dX9_catches_192 ?_
          refine aw_iload 7 dX9_catches_195 rfl ?_
          refine mo_lald 22 10 rfl (xin_v hi10) dX9_catches_197 ?_
          refine aw_iconst (1 : Int32) dX9_catches_198 (by decide) ?_
          refine aw_iload 6 dX9_catches_199 rfl ?_
          refine aw_isub dX9_catches_201 ?_
          refine aw_iload 0 dX9_catches_202 rfl ?_
          obtain ⟨q14, hq14, hf⟩ := xbind hf
          refine aw_callV 7 (some mo) [.long (m_J W13 21 a9.toNatClampNeg), .long (m_J W13 22 a9.toNatClampNeg), .int ((1 : Int32) - a8), .int q12] 4 rfl mo_ob rfl rfl (ctX9_puts hl _ _ _ _ _ hq14) ⟨wl5 (i := 81) rfl rfl, ciX9_puts⟩ (wl5 (i := 83) rfl rfl) (wl0 (i := 30) rfl rfl) dX9_catches_204 rfl rfl (Nat.le_of_ble_eq_true rfl) ⟨Nat.le_of_ble_eq_true rfl, Nat.le_of_ble_eq_true rfl⟩ ⟨Nat.le_of_ble_eq_true rfl, Nat.le_of_ble_eq_true rfl⟩ ?_
          refine aw_aload_n 2 dX9_catches_207 rfl ?_
          refine mo_getI 28 rfl (by decide) (wl4 (i := 126) rfl rfl) dX9_catches_208 ?_
          refine aw_if_eq 218 dX9_catches_211 (by decide) (fun c15 => ?_) (fun c15 => ?_)
          · rw [if_pos c15] at hf
            refine aw_aload_n 2 dX9_catches_218 rfl ?_
            refine aw_aload_n 2 dX9_catches_219 rfl ?_
            refine mo_getJ 25 rfl (by decide) (wl4 (i := 123) rfl rfl) dX9_catches_220 ?_
            refine aw_aload_n 2 dX9_catches_223 rfl ?_
            refine mo_getJ 26 rfl (by decide) (wl4 (i := 124) rfl rfl) dX9_catches_224 ?_
            refine aw_iload 3 dX9_catches_227 rfl ?_
            obtain ⟨q16, hq16, hf⟩ := xbind hf
            refine aw_callV 7 (some mo) [.long (m_j q14 25), .long (m_j q14 26), .int a5] 3 rfl mo_ob rfl rfl (ctX9_libertiesAt hl _ _ _ hq16) ⟨wl5 (i := 215) rfl rfl, ciX9_libertiesAt⟩ (wl5 (i := 217) rfl rfl) (wl0 (i := 45) rfl rfl) dX9_catches_229 rfl rfl (Nat.le_of_ble_eq_true rfl) ⟨Nat.le_of_ble_eq_true rfl, Nat.le_of_ble_eq_true rfl⟩ ⟨Nat.le_of_ble_eq_true rfl, Nat.le_of_ble_eq_true rfl⟩ ?_
            refine aw_lv [2, 3, 4, 5, 6, 7, 8] rfl ?_
            exact wkX9_catches_232 hl _ hk39 _ _ _ _ _ _ _ _ hf
          · rw [if_neg c15] at hf
            refine aw_iconst (0 : Int32) dX9_catches_214 (by decide) ?_
            refine aw_goto 232 dX9_catches_215 (by decide) ?_
            refine aw_lv [2, 3, 4, 5, 6, 7, 8] rfl ?_
            exact wkX9_catches_232 hl _ hk39 _ _ _ _ _ _ _ _ hf
        · rw [if_pos c11] at hf
          refine aw_iconst (4 : Int32) dX9_catches_146 (by decide) ?_
          refine aw_istore [(10, .int (4 : Int32)), (11, .int (a6 - a9)), (0, .ref mo), (5, .int a5), (6, .int a6), (7, .int a7), (8, .int a8), (9, .int a9)] dX9_catches_147 (by decide) rfl ?_
          refine aw_goto 528 dX9_catches_149 (by decide) ?_
          refine aw_lv [2, 3, 4, 5, 6, 7, 0] rfl ?_
          exact wkX9_catches_528 hl _ hk39 _ _ _ _ _ _ _ hf
    · rw [if_pos c1] at hf
      refine aw_aload_n 1 dX9_catches_51 rfl ?_
      refine aw_aload_n 1 dX9_catches_52 rfl ?_
      refine mo_getR 29 21 rfl (by decide) (wl4 (i := 127) rfl rfl) dX9_catches_53 ?_
      refine aw_iload 6 dX9_catches_56 rfl ?_
      obtain ⟨hi17, hf⟩ := xifn hf
      refine mo_lald 21 10 rfl (xin_v hi17) dX9_catches_58 ?_
      refine aw_aload_n 1 dX9_catches_59 rfl ?_
      refine mo_getR 30 22 rfl (by decide) (wl4 (i := 128) rfl rfl) dX9_catches_60 ?_
      refine aw_iload 6 dX9_catches_63 rfl ?_
      refine mo_lald 22 10 rfl (xin_v hi17) dX9_catches_65 ?_
      refine aw_iload 2 dX9_catches_66 rfl ?_
      obtain ⟨q18, hq18, hf⟩ := xbind hf
      refine aw_callV 7 (some mo) [.long (m_J S 21 a9.toNatClampNeg), .long (m_J S 22 a9.toNatClampNeg), .int a5] 3 rfl mo_ob rfl rfl (ctX9_libertiesAt hl _ _ _ hq18) ⟨wl5 (i := 215) rfl rfl, ciX9_libertiesAt⟩ (wl5 (i := 217) rfl rfl) (wl0 (i := 45) rfl rfl) dX9_catches_68 rfl rfl (Nat.le_of_ble_eq_true rfl) ⟨Nat.le_of_ble_eq_true rfl, Nat.le_of_ble_eq_true rfl⟩ ⟨Nat.le_of_ble_eq_true rfl, Nat.le_of_ble_eq_true rfl⟩ ?_
      refine aw_istore [(12, .int q18), (11, .int (a6 - a9)), (0, .ref mo), (5, .int a5), (6, .int a6), (7, .int a7), (8, .int a8), (9, .int a9), (10, .int a10)] dX9_catches_71 (by decide) rfl ?_
      refine aw_aload_n 2 dX9_catches_73 rfl ?_
      refine mo_getR 31 23 rfl (by decide) (wl4 (i := 129) rfl rfl) dX9_catches_74 ?_
      refine aw_iload 7 dX9_catches_77 rfl ?_
      refine aw_iload 1 dX9_catches_79 rfl ?_
      refine aw_iconst (1 : Int32) dX9_catches_81 (by decide) ?_
      refine aw_icmp_le 110 dX9_catches_82 (by decide) (fun c19 => ?_) (fun c19 => ?_)
      · rw [if_pos c19] at hf
        refine aw_lconst (0 : Int64) dX9_catches_110 (by decide) ?_
        refine aw_lv [2, 3, 4, 5, 6, 7, 0] rfl ?_
        exact wkX9_catches_111 hl _ hk39 _ _ _ _ _ _ _ _ _ hf
      · rw [if_neg c19] at hf
        refine aw_aload_n 2 dX9_catches_85 rfl ?_
        refine aw_aload_n 2 dX9_catches_86 rfl ?_
        refine mo_getR 29 21 rfl (by decide) (wl4 (i := 127) rfl rfl) dX9_catches_87 ?_
        refine aw_iload 7 dX9_catches_90 rfl ?_
        refine mo_lald 21 10 rfl (xin_v hi17) dX9_catches_92 ?_
        refine aw_aload_n 2 dX9_catches_93 rfl ?_
        refine mo_getR 30 22 rfl (by decide) (wl4 (i := 128) rfl rfl) dX9_catches_94 ?_
        refine aw_iload 7 dX9_catches_97 rfl ?_
        refine mo_lald 22 10 rfl (xin_v hi17) dX9_catches_99 ?_
        refine aw_iload 3 dX9_catches_100 rfl ?_
        refine aw_iload 5 dX9_catches_102 rfl ?_
        obtain ⟨q20, hq20, hf⟩ := xbind hf
        refine aw_callV 7 (some mo) [.long (m_J S 21 a9.toNatClampNeg), .long (m_J S 22 a9.toNatClampNeg), .int a5, .int a7] 4 rfl mo_ob rfl rfl (ctX9_attacks hl _ _ _ _ hq20) ⟨wl5 (i := 219) rfl rfl, ciX9_attacks⟩ (wl5 (i := 221) rfl rfl) (wl0 (i := 46) rfl rfl) dX9_catches_104 rfl rfl (Nat.le_of_ble_eq_true rfl) ⟨Nat.le_of_ble_eq_true rfl, Nat.le_of_ble_eq_true rfl⟩ ⟨Nat.le_of_ble_eq_true rfl, Nat.le_of_ble_eq_true rfl⟩ ?_
        refine aw_goto 111 dX9_catches_107 (by decide) ?_
        refine aw_lv [2, 3, 4, 5, 6, 7, 0] rfl ?_
        exact wkX9_catches_111 hl _ hk39 _ _ _ _ _ _ _ _ _ hf
def fX9_catches_17 (S : MS) (a1 : Int64) (a3 : Int64) (a5 : Int32) (a6 : Int32) (a7 : Int32) (s0 : Int32) : Option (Bool × MS) :=
  (some (ms_J (ms_J S 21 (0 : Int32).toNatClampNeg a1) 22 (0 : Int32).toNatClampNeg a3)).bind fun W1 => fX9_catches_39 FU W1 a5 a6 a7 s0 (0 : Int32) (0 : Int32)
set_option maxHeartbeats 4000000 in
set_option maxRecDepth 100000 in
theorem wkX9_catches_17 {l : Launch} {g : xG} {x0 : xV} {mo sz : Nat} (hl : l.stackTraces = false) {r : Bool × MS} (S : MS) (a1 : Int64) (a3 : Int64) (a5 : Int32) (a6 : Int32) (a7 : Int32) (s0 : Int32) (hf : fX9_catches_17 S a1 a3 a5 a6 a7 s0 = some r) : AW MX9_catches rmX9_catches l g x0 (.inl (some (.int (bi r.1)))) (moE g mo sz r.2) 0 0 (moE g mo sz S) 17 [(0, .ref mo), (1, .long a1), (3, .long a3), (5, .int a5), (6, .int a6), (7, .int a7)] [.int s0] := by
  rw [fX9_catches_17] at hf
  refine aw_istore [(8, .int s0), (0, .ref mo), (1, .long a1), (3, .long a3), (5, .int a5), (6, .int a6), (7, .int a7)] dX9_catches_17 (by decide) rfl ?_
  refine aw_iconst (0 : Int32) dX9_catches_19 (by decide) ?_
  refine aw_istore [(9, .int (0 : Int32)), (8, .int s0), (0, .ref mo), (1, .long a1), (3, .long a3), (5, .int a5), (6, .int a6), (7, .int a7)] dX9_catches_20 (by decide) rfl ?_
  refine aw_aload_n 2 dX9_catches_22 rfl ?_
  refine mo_getR 29 21 rfl (by decide) (wl4 (i := 127) rfl rfl) dX9_catches_23 ?_
  refine aw_iconst (0 : Int32) dX9_catches_26 (by decide) ?_
  refine aw_lload_n 3 dX9_catches_27 rfl ?_
  refine mo_last 21 10 rfl (xin_v (by decide)) dX9_catches_28 ?_
  refine aw_aload_n 2 dX9_catches_29 rfl ?_
  refine mo_getR 30 22 rfl (by decide) (wl4 (i := 128) rfl rfl) dX9_catches_30 ?_
  refine aw_iconst (0 : Int32) dX9_catches_33 (by decide) ?_
  refine aw_lload_n 4 dX9_catches_34 rfl ?_
  obtain ⟨W1, hW1, hf⟩ := xlet hf
  refine mo_last 22 10 rfl (xin_v (by decide)) dX9_catches_35 ?_
  rw [hW1]
  refine aw_iconst (0 : Int32) dX9_catches_36 (by decide) ?_
  refine aw_istore [(10, .int (0 : Int32)), (9, .int (0 : Int32)), (8, .int s0), (0, .ref mo), (1, .long a1), (3, .long a3), (5, .int a5), (6, .int a6), (7, .int a7)] dX9_catches_37 (by decide) rfl ?_
  refine aw_lv [3, 6, 7, 8, 2, 1, 0] rfl ?_
  exact wkX9_catches_39 hl _ _ _ _ _ _ _ _ hf
def fX9_catches (S : MS) (a1 : Int64) (a3 : Int64) (a5 : Int32) (a6 : Int32) (a7 : Int32) : Option (Bool × MS) :=
  (fX9_bit a5).bind fun q1 => (if (a1 &&& q1) = (0 : Int64) then fX9_catches_17 S a1 a3 a5 a6 a7 (1 : Int32) else fX9_catches_17 S a1 a3 a5 a6 a7 (0 : Int32))
set_option maxHeartbeats 4000000 in
set_option maxRecDepth 100000 in
theorem ctX9_catches {l : Launch} {g : xG} {mo sz : Nat} (hl : l.stackTraces = false) {r : Bool × MS} (S : MS) (a1 : Int64) (a3 : Int64) (a5 : Int32) (a6 : Int32) (a7 : Int32) (hf : fX9_catches S a1 a3 a5 a6 a7 = some r) : CT yX9_catches MX9_catches rmX9_catches l g [.ref mo, .long a1, .long a3, .int a5, .int a6, .int a7] (moE g mo sz S) (.inl (some (.int (bi r.1)))) (moE g mo sz r.2) := by
  rw [fX9_catches] at hf
  refine CT.of (lv0 := [(0, .ref mo), (1, .long a1), (3, .long a3), (5, .int a5), (6, .int a6), (7, .int a7)]) (by decide +kernel) rfl rfl (Nat.le_of_ble_eq_true rfl) rfl hl ?_
  refine aw_lload_n 1 dX9_catches_0 rfl ?_
  refine aw_iload 3 dX9_catches_1 rfl ?_
  obtain ⟨q1, hq1, hf⟩ := xbind hf
  refine aw_callS [.int a5] 1 (ctX9_bit hl _ hq1) ⟨wl5 (i := 51) rfl rfl, ciX9_bit⟩ (wl5 (i := 52) rfl rfl) dX9_catches_3 rfl rfl (Nat.le_of_ble_eq_true rfl) ⟨Nat.le_of_ble_eq_true rfl, Nat.le_of_ble_eq_true rfl⟩ ⟨Nat.le_of_ble_eq_true rfl, Nat.le_of_ble_eq_true rfl⟩ ?_
  refine aw_land dX9_catches_6 ?_
  refine aw_lconst (0 : Int64) dX9_catches_7 (by decide) ?_
  refine aw_lcmp_eq 16 dX9_catches_8 dX9_catches_9 (by decide) (fun c2 => ?_) (fun c2 => ?_)
  · rw [if_pos c2] at hf
    refine aw_iconst (1 : Int32) dX9_catches_16 (by decide) ?_
    refine aw_lv [0, 1, 2, 3, 4, 5] rfl ?_
    exact wkX9_catches_17 hl _ _ _ _ _ _ _ hf
  · rw [if_neg c2] at hf
    refine aw_iconst (0 : Int32) dX9_catches_12 (by decide) ?_
    refine aw_goto 17 dX9_catches_13 (by decide) ?_
    refine aw_lv [0, 1, 2, 3, 4, 5] rfl ?_
    exact wkX9_catches_17 hl _ _ _ _ _ _ _ hf
abbrev MX9_isGame : xM := (RX9, cX9_isGame, 2, (some .boolean), "isGame")
abbrev rmX9_isGame : Room := { frames := 1, cells := 0, slots := 0, locals := 22 }
theorem ciX9_isGame : Cond.code yX9_isGame cX9_isGame 2 (some .boolean) ∈ wt ∧ Cond.initialized yX9_isGame.cls ∈ wt ∧ (yX9_isGame.cls ≠ "java/lang/invoke/MethodHandle" ∧ yX9_isGame.cls ≠ "java/lang/invoke/VarHandle" ∧ (parseMethodDescriptor yX9_isGame.desc).map (fun d => d.parameters.length) = some 1) := ⟨wl5 (i := 65) rfl rfl, wl1 (i := 4) rfl rfl, by decide +kernel, by decide +kernel, by decide +kernel⟩
def fX9_isGame (S : MS) (a1 : Int32) : Option (Bool) :=
  (fX9_isIn a1 (0 : Int32) ((m_i S 4) - (1 : Int32))).bind fun q1 => some q1
set_option maxHeartbeats 4000000 in
set_option maxRecDepth 100000 in
theorem ctX9_isGame {l : Launch} {g : xG} {mo sz : Nat} (hl : l.stackTraces = false) {r : Bool} (S : MS) (a1 : Int32) (hf : fX9_isGame S a1 = some r) : CT yX9_isGame MX9_isGame rmX9_isGame l g [.ref mo, .int a1] (moE g mo sz S) (.inl (some (.int (bi r)))) (moE g mo sz S) := by
  rw [fX9_isGame] at hf
  refine CT.of (lv0 := [(0, .ref mo), (1, .int a1)]) (by decide +kernel) rfl rfl (Nat.le_of_ble_eq_true rfl) rfl hl ?_
  refine aw_iload_n 1 dX9_isGame_0 rfl ?_
  refine aw_iconst (0 : Int32) dX9_isGame_1 (by decide) ?_
  refine aw_aload_n 0 dX9_isGame_2 rfl ?_
  refine mo_getI 4 rfl (by decide) (wl4 (i := 102) rfl rfl) dX9_isGame_3 ?_
  refine aw_iconst (1 : Int32) dX9_isGame_6 (by decide) ?_
  refine aw_isub dX9_isGame_7 ?_
  obtain ⟨q1, hq1, hf⟩ := xbind hf
  refine aw_callS [.int a1, .int (0 : Int32), .int ((m_i S 4) - (1 : Int32))] 3 (ctX9_isIn hl _ _ _ hq1) ⟨wl5 (i := 13) rfl rfl, ciX9_isIn⟩ (wl5 (i := 14) rfl rfl) dX9_isGame_8 rfl rfl (Nat.le_of_ble_eq_true rfl) ⟨Nat.le_of_ble_eq_true rfl, Nat.le_of_ble_eq_true rfl⟩ ⟨Nat.le_of_ble_eq_true rfl, Nat.le_of_ble_eq_true rfl⟩ ?_
  cases hf
  exact aw_zret dX9_isGame_11 rfl (nar_b _) rfl rfl ⟨Nat.le_of_ble_eq_true rfl, Nat.le_of_ble_eq_true rfl⟩
abbrev MX9_clock : xM := (RX9, cX9_clock, 4, (some .int), "clock")
abbrev rmX9_clock : Room := { frames := 2, cells := 0, slots := 0, locals := 43 }
theorem ciX9_clock : Cond.code yX9_clock cX9_clock 4 (some .int) ∈ wt ∧ Cond.initialized yX9_clock.cls ∈ wt ∧ (yX9_clock.cls ≠ "java/lang/invoke/MethodHandle" ∧ yX9_clock.cls ≠ "java/lang/invoke/VarHandle" ∧ (parseMethodDescriptor yX9_clock.desc).map (fun d => d.parameters.length) = some 2) := ⟨wl5 (i := 155) rfl rfl, wl1 (i := 4) rfl rfl, by decide +kernel, by decide +kernel, by decide +kernel⟩
def fX9_clock_33 (S : MS) (a1 : Int32) (a2 : Int32) (s1 : Int32) : Option (Int32 × MS) :=
  (fX9_fails S s1).bind fun q1 => (if q1.1 = false then (if xin (((2 : Int32) * a1) + a2) 32 = true then some ((((10 : Int32) * (m_I q1.2 14 (((2 : Int32) * a1) + a2).toNatClampNeg)) + (m_I q1.2 15 (((2 : Int32) * a1) + a2).toNatClampNeg)), q1.2) else none) else some ((0 : Int32), q1.2))
set_option maxHeartbeats 4000000 in
set_option maxRecDepth 100000 in
theorem wkX9_clock_33 {l : Launch} {g : xG} {x0 : xV} {mo sz : Nat} (hl : l.stackTraces = false) {r : Int32 × MS} (S : MS) (a1 : Int32) (a2 : Int32) (s1 : Int32) (hf : fX9_clock_33 S a1 a2 s1 = some r) : AW MX9_clock rmX9_clock l g x0 (.inl (some (.int r.1))) (moE g mo sz r.2) 0 0 (moE g mo sz S) 33 [(0, .ref mo), (1, .int a1), (2, .int a2)] [.int s1, .ref mo] := by
  rw [fX9_clock_33] at hf
  obtain ⟨q1, hq1, hf⟩ := xbind hf
  refine aw_callV 7 (some mo) [.int s1] 1 rfl mo_ob rfl rfl (ctX9_fails hl _ _ hq1) ⟨wl5 (i := 16) rfl rfl, ciX9_fails⟩ (wl5 (i := 18) rfl rfl) (wl0 (i := 19) rfl rfl) dX9_clock_33 rfl rfl (Nat.le_of_ble_eq_true rfl) ⟨Nat.le_of_ble_eq_true rfl, Nat.le_of_ble_eq_true rfl⟩ ⟨Nat.le_of_ble_eq_true rfl, Nat.le_of_ble_eq_true rfl⟩ ?_
  refine aw_ifb_eq 43 dX9_clock_36 (by decide) (fun c2 => ?_) (fun c2 => ?_)
  · rw [if_pos c2] at hf
    refine aw_bipush (10 : Int32) dX9_clock_43 (by decide) ?_
    refine aw_aload_n 0 dX9_clock_45 rfl ?_
    refine mo_getR 16 14 rfl (by decide) (wl4 (i := 114) rfl rfl) dX9_clock_46 ?_
    refine aw_iconst (2 : Int32) dX9_clock_49 (by decide) ?_
    refine aw_iload_n 1 dX9_clock_50 rfl ?_
    refine aw_imul dX9_clock_51 ?_
    refine aw_iload_n 2 dX9_clock_52 rfl ?_
    refine aw_iadd dX9_clock_53 ?_
    obtain ⟨hi3, hf⟩ := xifn hf
    refine mo_iald 14 32 rfl (xin_v hi3) dX9_clock_54 ?_
    refine aw_imul dX9_clock_55 ?_
    refine aw_aload_n 0 dX9_clock_56 rfl ?_
    refine mo_getR 17 15 rfl (by decide) (wl4 (i := 115) rfl rfl) dX9_clock_57 ?_
    refine aw_iconst (2 : Int32) dX9_clock_60 (by decide) ?_
    refine aw_iload_n 1 dX9_clock_61 rfl ?_
    refine aw_imul dX9_clock_62 ?_
    refine aw_iload_n 2 dX9_clock_63 rfl ?_
    refine aw_iadd dX9_clock_64 ?_
    refine mo_iald 15 32 rfl (xin_v hi3) dX9_clock_65 ?_
    refine aw_iadd dX9_clock_66 ?_
    cases hf
    exact aw_iret dX9_clock_67 rfl rfl rfl ⟨Nat.le_of_ble_eq_true rfl, Nat.le_of_ble_eq_true rfl⟩
  · rw [if_neg c2] at hf
    refine aw_iconst (0 : Int32) dX9_clock_39 (by decide) ?_
    refine aw_goto 67 dX9_clock_40 (by decide) ?_
    cases hf
    exact aw_iret dX9_clock_67 rfl rfl rfl ⟨Nat.le_of_ble_eq_true rfl, Nat.le_of_ble_eq_true rfl⟩
def fX9_clock_22 (S : MS) (a1 : Int32) (a2 : Int32) (s0 : Int32) : Option (Int32 × MS) :=
  (if s0 = 0 then fX9_clock_33 S a1 a2 (1 : Int32) else fX9_clock_33 S a1 a2 (0 : Int32))
set_option maxHeartbeats 4000000 in
set_option maxRecDepth 100000 in
theorem wkX9_clock_22 {l : Launch} {g : xG} {x0 : xV} {mo sz : Nat} (hl : l.stackTraces = false) {r : Int32 × MS} (S : MS) (a1 : Int32) (a2 : Int32) (s0 : Int32) (hf : fX9_clock_22 S a1 a2 s0 = some r) : AW MX9_clock rmX9_clock l g x0 (.inl (some (.int r.1))) (moE g mo sz r.2) 0 0 (moE g mo sz S) 22 [(0, .ref mo), (1, .int a1), (2, .int a2)] [.int s0] := by
  rw [fX9_clock_22] at hf
  refine aw_istore_n [(3, .int s0), (0, .ref mo), (1, .int a1), (2, .int a2)] dX9_clock_22 rfl (by decide) rfl ?_
  refine aw_aload_n 1 dX9_clock_23 rfl ?_
  refine aw_iload_n 0 dX9_clock_24 rfl ?_
  refine aw_if_eq 32 dX9_clock_25 (by decide) (fun c1 => ?_) (fun c1 => ?_)
  · rw [if_pos c1] at hf
    refine aw_iconst (1 : Int32) dX9_clock_32 (by decide) ?_
    refine aw_lv [1, 2, 3] rfl ?_
    exact wkX9_clock_33 hl _ _ _ _ hf
  · rw [if_neg c1] at hf
    refine aw_iconst (0 : Int32) dX9_clock_28 (by decide) ?_
    refine aw_goto 33 dX9_clock_29 (by decide) ?_
    refine aw_lv [1, 2, 3] rfl ?_
    exact wkX9_clock_33 hl _ _ _ _ hf
def fX9_clock (S : MS) (a1 : Int32) (a2 : Int32) : Option (Int32 × MS) :=
  (fX9_isGame S a1).bind fun q1 => (if q1 = false then fX9_clock_22 S a1 a2 (0 : Int32) else (fX9_isIn a2 (0 : Int32) (1 : Int32)).bind fun q3 => (if q3 = false then fX9_clock_22 S a1 a2 (0 : Int32) else fX9_clock_22 S a1 a2 (1 : Int32)))
set_option maxHeartbeats 4000000 in
set_option maxRecDepth 100000 in
theorem ctX9_clock {l : Launch} {g : xG} {mo sz : Nat} (hl : l.stackTraces = false) {r : Int32 × MS} (S : MS) (a1 : Int32) (a2 : Int32) (hf : fX9_clock S a1 a2 = some r) : CT yX9_clock MX9_clock rmX9_clock l g [.ref mo, .int a1, .int a2] (moE g mo sz S) (.inl (some (.int r.1))) (moE g mo sz r.2) := by
  rw [fX9_clock] at hf
  refine CT.of (lv0 := [(0, .ref mo), (1, .int a1), (2, .int a2)]) (by decide +kernel) rfl rfl (Nat.le_of_ble_eq_true rfl) rfl hl ?_
  refine aw_aload_n 0 dX9_clock_0 rfl ?_
  refine aw_iload_n 1 dX9_clock_1 rfl ?_
  obtain ⟨q1, hq1, hf⟩ := xbind hf
  refine aw_callV 7 (some mo) [.int a1] 1 rfl mo_ob rfl rfl (ctX9_isGame hl _ _ hq1) ⟨wl5 (i := 62) rfl rfl, ciX9_isGame⟩ (wl5 (i := 64) rfl rfl) (wl0 (i := 26) rfl rfl) dX9_clock_2 rfl rfl (Nat.le_of_ble_eq_true rfl) ⟨Nat.le_of_ble_eq_true rfl, Nat.le_of_ble_eq_true rfl⟩ ⟨Nat.le_of_ble_eq_true rfl, Nat.le_of_ble_eq_true rfl⟩ ?_
  refine aw_ifb_eq 21 dX9_clock_5 (by decide) (fun c2 => ?_) (fun c2 => ?_)
  · rw [if_pos c2] at hf
    refine aw_iconst (0 : Int32) dX9_clock_21 (by decide) ?_
    refine aw_lv [0, 1, 2] rfl ?_
    exact wkX9_clock_22 hl _ _ _ _ hf
  · rw [if_neg c2] at hf
    refine aw_iload_n 2 dX9_clock_8 rfl ?_
    refine aw_iconst (0 : Int32) dX9_clock_9 (by decide) ?_
    refine aw_iconst (1 : Int32) dX9_clock_10 (by decide) ?_
    obtain ⟨q3, hq3, hf⟩ := xbind hf
    refine aw_callS [.int a2, .int (0 : Int32), .int (1 : Int32)] 3 (ctX9_isIn hl _ _ _ hq3) ⟨wl5 (i := 13) rfl rfl, ciX9_isIn⟩ (wl5 (i := 14) rfl rfl) dX9_clock_11 rfl rfl (Nat.le_of_ble_eq_true rfl) ⟨Nat.le_of_ble_eq_true rfl, Nat.le_of_ble_eq_true rfl⟩ ⟨Nat.le_of_ble_eq_true rfl, Nat.le_of_ble_eq_true rfl⟩ ?_
    refine aw_ifb_eq 21 dX9_clock_14 (by decide) (fun c4 => ?_) (fun c4 => ?_)
    · rw [if_pos c4] at hf
      refine aw_iconst (0 : Int32) dX9_clock_21 (by decide) ?_
      refine aw_lv [0, 1, 2] rfl ?_
      exact wkX9_clock_22 hl _ _ _ _ hf
    · rw [if_neg c4] at hf
      refine aw_iconst (1 : Int32) dX9_clock_17 (by decide) ?_
      refine aw_goto 22 dX9_clock_18 (by decide) ?_
      refine aw_lv [0, 1, 2] rfl ?_
      exact wkX9_clock_22 hl _ _ _ _ hf
