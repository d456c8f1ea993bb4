abbrev MX0_around : xM := (RX0, cX0_around, 4, (some .long), "around")
abbrev rmX0_around : Room := { frames := 0, cells := 0, slots := 0, locals := 0 }
theorem ciX0_around : Cond.code yX0_around cX0_around 4 (some .long) ∈ wt ∧ Cond.initialized yX0_around.cls ∈ wt ∧ (yX0_around.cls ≠ "java/lang/invoke/MethodHandle" ∧ yX0_around.cls ≠ "java/lang/invoke/VarHandle" ∧ (parseMethodDescriptor yX0_around.desc).map (fun d => d.parameters.length) = some 1) := ⟨wl2 (i := 103) rfl rfl, wl1 (i := 9) rfl rfl, by decide +kernel, by decide +kernel, by decide +kernel⟩
def fX0_around (a0 : Int64) : Option (Int64) :=
  some ((((x_shl a0 (7 : Int32)) ||| (x_ushr a0 (7 : Int32))) ||| ((x_shl (a0 &&& (-283691315109953 : Int64)) (1 : Int32)) ||| (x_ushr (a0 &&& (-4432676798594 : Int64)) (1 : Int32)))) &&& (562949953421311 : Int64))
set_option maxHeartbeats 4000000 in
set_option maxRecDepth 100000 in
theorem ctX0_around {l : Launch} {g : xG} {x : xV} (hl : l.stackTraces = false) {r : Int64} (a0 : Int64) (hf : fX0_around a0 = some r) : CT yX0_around MX0_around rmX0_around l g [.long a0] x (.inl (some (.long r))) x := by
  rw [fX0_around] at hf
  refine CT.of (lv0 := [(0, .long a0)]) (by decide +kernel) rfl rfl (Nat.le_of_ble_eq_true rfl) rfl hl ?_
  refine aw_lload_n 0 dX0_around_0 rfl ?_
  refine aw_ldc2 (-283691315109953 : Int64) rfl (wl2 (i := 104) rfl rfl) dX0_around_1 ?_
  refine aw_land dX0_around_4 ?_
  refine aw_iconst (1 : Int32) dX0_around_5 (by decide) ?_
  refine aw_lshl dX0_around_6 ?_
  refine aw_lload_n 0 dX0_around_7 rfl ?_
  refine aw_ldc2 (-4432676798594 : Int64) rfl (wl2 (i := 105) rfl rfl) dX0_around_8 ?_
  refine aw_land dX0_around_11 ?_
  refine aw_iconst (1 : Int32) dX0_around_12 (by decide) ?_
  refine aw_lushr dX0_around_13 ?_
  refine aw_lor dX0_around_14 ?_
  refine aw_lstore_n [(2, .long ((x_shl (a0 &&& (-283691315109953 : Int64)) (1 : Int32)) ||| (x_ushr (a0 &&& (-4432676798594 : Int64)) (1 : Int32)))), (0, .long a0)] dX0_around_15 rfl (by decide) rfl ?_
  refine aw_lload_n 1 dX0_around_16 rfl ?_
  refine aw_bipush (7 : Int32) dX0_around_17 (by decide) ?_
  refine aw_lshl dX0_around_19 ?_
  refine aw_lload_n 1 dX0_around_20 rfl ?_
  refine aw_bipush (7 : Int32) dX0_around_21 (by decide) ?_
  refine aw_lushr dX0_around_23 ?_
  refine aw_lor dX0_around_24 ?_
  refine aw_lload_n 0 dX0_around_25 rfl ?_
  refine aw_lor dX0_around_26 ?_
  refine aw_ldc2 (562949953421311 : Int64) rfl (wl2 (i := 106) rfl rfl) dX0_around_27 ?_
  refine aw_land dX0_around_30 ?_
  cases hf
  exact aw_lret dX0_around_31 rfl rfl rfl ⟨Nat.le_of_ble_eq_true rfl, Nat.le_of_ble_eq_true rfl⟩
abbrev MX0_flood : xM := (RX0, cX0_flood, 9, (some .long), "flood")
abbrev rmX0_flood : Room := { frames := 1, cells := 0, slots := 0, locals := 23 }
theorem ciX0_flood : Cond.code yX0_flood cX0_flood 9 (some .long) ∈ wt ∧ Cond.initialized yX0_flood.cls ∈ wt ∧ (yX0_flood.cls ≠ "java/lang/invoke/MethodHandle" ∧ yX0_flood.cls ≠ "java/lang/invoke/VarHandle" ∧ (parseMethodDescriptor yX0_flood.desc).map (fun d => d.parameters.length) = some 2) := ⟨wl2 (i := 113) rfl rfl, wl1 (i := 9) rfl rfl, by decide +kernel, by decide +kernel, by decide +kernel⟩
def fX0_flood_8 : Nat → Int64 → Int64 → Int32 → Option (Int64)
  | 0, _, _, _ => none
  | n + 1, a2, a4, a6 =>
    (if (49 : Int32) ≤ a6 then some a4 else (fX0_around a4).bind fun q2 => (if (a4 ||| (q2 &&& a2)) = a4 then some a4 else fX0_flood_8 n a2 (a4 ||| (q2 &&& a2)) (a6 + (1 : Int32))))
set_option maxHeartbeats 4000000 in
set_option maxRecDepth 100000 in
theorem wkX0_flood_8 {l : Launch} {g : xG} {x0 : xV} {x : xV} (hl : l.stackTraces = false) {r : Int64} : ∀ (n : Nat) (a2 : Int64) (a4 : Int64) (a6 : Int32), fX0_flood_8 n a2 a4 a6 = some r → AW MX0_flood rmX0_flood l g x0 (.inl (some (.long r))) x 0 0 x 8 [(2, .long a2), (4, .long a4), (6, .int a6)] [] := by
  intro n
  induction n with
  | zero => intro a2 a4 a6 hf; exact absurd hf (by simp [fX0_flood_8])
  | succ n hk8 =>
    intro a2 a4 a6 hf
    rw [fX0_flood_8] at hf
    refine aw_iload 2 dX0_flood_8 rfl ?_
    refine aw_bipush (49 : Int32) dX0_flood_10 (by decide) ?_
    refine aw_icmp_ge 48 dX0_flood_12 (by decide) (fun c1 => ?_) (fun c1 => ?_)
    · rw [if_pos c1] at hf
      refine aw_lload 1 dX0_flood_48 rfl ?_
      cases hf
      exact aw_lret dX0_flood_50 rfl rfl rfl ⟨Nat.le_of_ble_eq_true rfl, Nat.le_of_ble_eq_true rfl⟩
    · rw [if_neg c1] at hf
      refine aw_lload 1 dX0_flood_15 rfl ?_
      refine aw_lload 1 dX0_flood_17 rfl ?_
      obtain ⟨q2, hq2, hf⟩ := xbind hf
      refine aw_callS [.long a4] 1 (ctX0_around hl _ hq2) ⟨wl2 (i := 114) rfl rfl, ciX0_around⟩ (wl2 (i := 102) rfl rfl) dX0_flood_19 rfl rfl (Nat.le_of_ble_eq_true rfl) ⟨Nat.le_of_ble_eq_true rfl, Nat.le_of_ble_eq_true rfl⟩ ⟨Nat.le_of_ble_eq_true rfl, Nat.le_of_ble_eq_true rfl⟩ ?_
      refine aw_lload_n 0 dX0_flood_22 rfl ?_
      refine aw_land dX0_flood_23 ?_
      refine aw_lor dX0_flood_24 ?_
      refine aw_lstore [(7, .long (a4 ||| (q2 &&& a2))), (2, .long a2), (4, .long a4), (6, .int a6)] dX0_flood_25 (by decide) rfl ?_
      refine aw_lload 0 dX0_flood_27 rfl ?_
      refine aw_lload 2 dX0_flood_29 rfl ?_
      refine aw_lcmp_ne 38 dX0_flood_31 dX0_flood_32 (by decide) (fun c3 => ?_) (fun c3 => ?_)
      · rw [if_neg c3] at hf
        refine aw_lload 0 dX0_flood_38 rfl ?_
        refine aw_lstore [(4, .long (a4 ||| (q2 &&& a2))), (7, .long (a4 ||| (q2 &&& a2))), (2, .long a2), (6, .int a6)] dX0_flood_40 (by decide) rfl ?_
        refine aw_iinc [(6, .int (a6 + (1 : Int32))), (4, .long (a4 ||| (q2 &&& a2))), (7, .long (a4 ||| (q2 &&& a2))), (2, .long a2)] 3 dX0_flood_42 rfl rfl (by decide) rfl ?_
        refine aw_goto 8 dX0_flood_45 (by decide) ?_
        refine aw_lv [3, 1, 0] rfl ?_
        exact hk8 _ _ _ hf
      · rw [if_pos c3] at hf
        refine aw_goto 48 dX0_flood_35 (by decide) ?_
        refine aw_lload 2 dX0_flood_48 rfl ?_
        cases hf
        exact aw_lret dX0_flood_50 rfl rfl rfl ⟨Nat.le_of_ble_eq_true rfl, Nat.le_of_ble_eq_true rfl⟩
def fX0_flood (a0 : Int64) (a2 : Int64) : Option (Int64) :=
  fX0_flood_8 FU a2 (a0 &&& a2) (0 : Int32)
set_option maxHeartbeats 4000000 in
set_option maxRecDepth 100000 in
theorem ctX0_flood {l : Launch} {g : xG} {x : xV} (hl : l.stackTraces = false) {r : Int64} (a0 : Int64) (a2 : Int64) (hf : fX0_flood a0 a2 = some r) : CT yX0_flood MX0_flood rmX0_flood l g [.long a0, .long a2] x (.inl (some (.long r))) x := by
  rw [fX0_flood] at hf
  refine CT.of (lv0 := [(0, .long a0), (2, .long a2)]) (by decide +kernel) rfl rfl (Nat.le_of_ble_eq_true rfl) rfl hl ?_
  refine aw_lload_n 0 dX0_flood_0 rfl ?_
  refine aw_lload_n 1 dX0_flood_1 rfl ?_
  refine aw_land dX0_flood_2 ?_
  refine aw_lstore [(4, .long (a0 &&& a2)), (0, .long a0), (2, .long a2)] dX0_flood_3 (by decide) rfl ?_
  refine aw_iconst (0 : Int32) dX0_flood_5 (by decide) ?_
  refine aw_istore [(6, .int (0 : Int32)), (4, .long (a0 &&& a2)), (0, .long a0), (2, .long a2)] dX0_flood_6 (by decide) rfl ?_
  refine aw_lv [3, 1, 0] rfl ?_
  exact wkX0_flood_8 hl _ _ _ _ hf
abbrev MX0_lead : xM := (RX0, cX0_lead, 10, (some .int), "lead")
abbrev rmX0_lead : Room := { frames := 2, cells := 0, slots := 0, locals := 51 }
theorem ciX0_lead : Cond.code yX0_lead cX0_lead 10 (some .int) ∈ wt ∧ Cond.initialized yX0_lead.cls ∈ wt ∧ (yX0_lead.cls ≠ "java/lang/invoke/MethodHandle" ∧ yX0_lead.cls ≠ "java/lang/invoke/VarHandle" ∧ (parseMethodDescriptor yX0_lead.desc).map (fun d => d.parameters.length) = some 2) := ⟨wl3 (i := 17) rfl rfl, wl1 (i := 9) rfl rfl, by decide +kernel, by decide +kernel, by decide +kernel⟩
def fX0_lead (a0 : Int64) (a2 : Int64) : Option (Int32) :=
  (fX0_around a0).bind fun q1 => (fX0_flood q1 ((562949953421311 : Int64) &&& ((a0 ||| a2) ^^^ (-1 : Int64)))).bind fun q2 => (fX0_around a2).bind fun q3 => (fX0_flood q3 ((562949953421311 : Int64) &&& ((a0 ||| a2) ^^^ (-1 : Int64)))).bind fun q4 => (fJ_bitCount (a0 ||| (q2 &&& (q4 ^^^ (-1 : Int64))))).bind fun q5 => (fJ_bitCount (a2 ||| (q4 &&& (q2 ^^^ (-1 : Int64))))).bind fun q6 => some (q5 - q6)
set_option maxHeartbeats 4000000 in
set_option maxRecDepth 100000 in
theorem ctX0_lead {l : Launch} {g : xG} {x : xV} (hl : l.stackTraces = false) {r : Int32} (a0 : Int64) (a2 : Int64) (hf : fX0_lead a0 a2 = some r) : CT yX0_lead MX0_lead rmX0_lead l g [.long a0, .long a2] x (.inl (some (.int r))) x := by
  rw [fX0_lead] at hf
  refine CT.of (lv0 := [(0, .long a0), (2, .long a2)]) (by decide +kernel) rfl rfl (Nat.le_of_ble_eq_true rfl) rfl hl ?_
  refine aw_ldc2 (562949953421311 : Int64) rfl (wl2 (i := 106) rfl rfl) dX0_lead_0 ?_
  refine aw_lload_n 0 dX0_lead_3 rfl ?_
  refine aw_lload_n 1 dX0_lead_4 rfl ?_
  refine aw_lor dX0_lead_5 ?_
  refine aw_ldc2 (-1 : Int64) rfl (wl2 (i := 118) rfl rfl) dX0_lead_6 ?_
  refine aw_lxor dX0_lead_9 ?_
  refine aw_land dX0_lead_10 ?_
  refine aw_lstore [(4, .long ((562949953421311 : Int64) &&& ((a0 ||| a2) ^^^ (-1 : Int64)))), (0, .long a0), (2, .long a2)] dX0_lead_11 (by decide) rfl ?_
  refine aw_lload_n 1 dX0_lead_13 rfl ?_
  obtain ⟨q1, hq1, hf⟩ := xbind hf
  refine aw_callS [.long a0] 1 (ctX0_around hl _ hq1) ⟨wl2 (i := 114) rfl rfl, ciX0_around⟩ (wl2 (i := 102) rfl rfl) dX0_lead_14 rfl rfl (Nat.le_of_ble_eq_true rfl) ⟨Nat.le_of_ble_eq_true rfl, Nat.le_of_ble_eq_true rfl⟩ ⟨Nat.le_of_ble_eq_true rfl, Nat.le_of_ble_eq_true rfl⟩ ?_
  refine aw_lload 0 dX0_lead_17 rfl ?_
  obtain ⟨q2, hq2, hf⟩ := xbind hf
  refine aw_callS [.long q1, .long ((562949953421311 : Int64) &&& ((a0 ||| a2) ^^^ (-1 : Int64)))] 2 (ctX0_flood hl _ _ hq2) ⟨wl2 (i := 197) rfl rfl, ciX0_flood⟩ (wl2 (i := 112) rfl rfl) dX0_lead_19 rfl rfl (Nat.le_of_ble_eq_true rfl) ⟨Nat.le_of_ble_eq_true rfl, Nat.le_of_ble_eq_true rfl⟩ ⟨Nat.le_of_ble_eq_true rfl, Nat.le_of_ble_eq_true rfl⟩ ?_
  refine aw_lstore [(6, .long q2), (4, .long ((562949953421311 : Int64) &&& ((a0 ||| a2) ^^^ (-1 : Int64)))), (0, .long a0), (2, .long a2)] dX0_lead_22 (by decide) rfl ?_
  refine aw_lload_n 3 dX0_lead_24 rfl ?_
  obtain ⟨q3, hq3, hf⟩ := xbind hf
  refine aw_callS [.long a2] 1 (ctX0_around hl _ hq3) ⟨wl2 (i := 114) rfl rfl, ciX0_around⟩ (wl2 (i := 102) rfl rfl) dX0_lead_25 rfl rfl (Nat.le_of_ble_eq_true rfl) ⟨Nat.le_of_ble_eq_true rfl, Nat.le_of_ble_eq_true rfl⟩ ⟨Nat.le_of_ble_eq_true rfl, Nat.le_of_ble_eq_true rfl⟩ ?_
  refine aw_lload 1 dX0_lead_28 rfl ?_
  obtain ⟨q4, hq4, hf⟩ := xbind hf
  refine aw_callS [.long q3, .long ((562949953421311 : Int64) &&& ((a0 ||| a2) ^^^ (-1 : Int64)))] 2 (ctX0_flood hl _ _ hq4) ⟨wl2 (i := 197) rfl rfl, ciX0_flood⟩ (wl2 (i := 112) rfl rfl) dX0_lead_30 rfl rfl (Nat.le_of_ble_eq_true rfl) ⟨Nat.le_of_ble_eq_true rfl, Nat.le_of_ble_eq_true rfl⟩ ⟨Nat.le_of_ble_eq_true rfl, Nat.le_of_ble_eq_true rfl⟩ ?_
  refine aw_lstore [(8, .long q4), (6, .long q2), (4, .long ((562949953421311 : Int64) &&& ((a0 ||| a2) ^^^ (-1 : Int64)))), (0, .long a0), (2, .long a2)] dX0_lead_33 (by decide) rfl ?_
  refine aw_lload_n 3 dX0_lead_35 rfl ?_
  refine aw_lload 1 dX0_lead_36 rfl ?_
  refine aw_lload 0 dX0_lead_38 rfl ?_
  refine aw_ldc2 (-1 : Int64) rfl (wl2 (i := 118) rfl rfl) dX0_lead_40 ?_
  refine aw_lxor dX0_lead_43 ?_
  refine aw_land dX0_lead_44 ?_
  refine aw_lor dX0_lead_45 ?_
  obtain ⟨q5, hq5, hf⟩ := xbind hf
  refine aw_callS [.long (a0 ||| (q2 &&& (q4 ^^^ (-1 : Int64))))] 1 (ctJ_bitCount hl _ hq5) ⟨wl3 (i := 18) rfl rfl, ciJ_bitCount⟩ (wl2 (i := 120) rfl rfl) dX0_lead_46 rfl rfl (Nat.le_of_ble_eq_true rfl) ⟨Nat.le_of_ble_eq_true rfl, Nat.le_of_ble_eq_true rfl⟩ ⟨Nat.le_of_ble_eq_true rfl, Nat.le_of_ble_eq_true rfl⟩ ?_
  refine aw_lload_n 4 dX0_lead_49 rfl ?_
  refine aw_lload 0 dX0_lead_50 rfl ?_
  refine aw_lload 1 dX0_lead_52 rfl ?_
  refine aw_ldc2 (-1 : Int64) rfl (wl2 (i := 118) rfl rfl) dX0_lead_54 ?_
  refine aw_lxor dX0_lead_57 ?_
  refine aw_land dX0_lead_58 ?_
  refine aw_lor dX0_lead_59 ?_
  obtain ⟨q6, hq6, hf⟩ := xbind hf
  refine aw_callS [.long (a2 ||| (q4 &&& (q2 ^^^ (-1 : Int64))))] 1 (ctJ_bitCount hl _ hq6) ⟨wl3 (i := 18) rfl rfl, ciJ_bitCount⟩ (wl2 (i := 120) rfl rfl) dX0_lead_60 rfl rfl (Nat.le_of_ble_eq_true rfl) ⟨Nat.le_of_ble_eq_true rfl, Nat.le_of_ble_eq_true rfl⟩ ⟨Nat.le_of_ble_eq_true rfl, Nat.le_of_ble_eq_true rfl⟩ ?_
  refine aw_isub dX0_lead_63 ?_
  cases hf
  exact aw_iret dX0_lead_64 rfl rfl rfl ⟨Nat.le_of_ble_eq_true rfl, Nat.le_of_ble_eq_true rfl⟩
abbrev MX0_libertiesOf : xM := (RX0, cX0_libertiesOf, 4, (some .long), "libertiesOf")
abbrev rmX0_libertiesOf : Room := { frames := 1, cells := 0, slots := 0, locals := 23 }
theorem ciX0_libertiesOf : Cond.code yX0_libertiesOf cX0_libertiesOf 4 (some .long) ∈ wt ∧ Cond.initialized yX0_libertiesOf.cls ∈ wt ∧ (yX0_libertiesOf.cls ≠ "java/lang/invoke/MethodHandle" ∧ yX0_libertiesOf.cls ≠ "java/lang/invoke/VarHandle" ∧ (parseMethodDescriptor yX0_libertiesOf.desc).map (fun d => d.parameters.length) = some 2) := ⟨wl2 (i := 117) rfl rfl, wl1 (i := 9) rfl rfl, by decide +kernel, by decide +kernel, by decide +kernel⟩
def fX0_libertiesOf (a0 : Int64) (a2 : Int64) : Option (Int64) :=
  (fX0_around a0).bind fun q1 => some (q1 &&& (a2 ^^^ (-1 : Int64)))
set_option maxHeartbeats 4000000 in
set_option maxRecDepth 100000 in
theorem ctX0_libertiesOf {l : Launch} {g : xG} {x : xV} (hl : l.stackTraces = false) {r : Int64} (a0 : Int64) (a2 : Int64) (hf : fX0_libertiesOf a0 a2 = some r) : CT yX0_libertiesOf MX0_libertiesOf rmX0_libertiesOf l g [.long a0, .long a2] x (.inl (some (.long r))) x := by
  rw [fX0_libertiesOf] at hf
  refine CT.of (lv0 := [(0, .long a0), (2, .long a2)]) (by decide +kernel) rfl rfl (Nat.le_of_ble_eq_true rfl) rfl hl ?_
  refine aw_lload_n 0 dX0_libertiesOf_0 rfl ?_
  obtain ⟨q1, hq1, hf⟩ := xbind hf
  refine aw_callS [.long a0] 1 (ctX0_around hl _ hq1) ⟨wl2 (i := 114) rfl rfl, ciX0_around⟩ (wl2 (i := 102) rfl rfl) dX0_libertiesOf_1 rfl rfl (Nat.le_of_ble_eq_true rfl) ⟨Nat.le_of_ble_eq_true rfl, Nat.le_of_ble_eq_true rfl⟩ ⟨Nat.le_of_ble_eq_true rfl, Nat.le_of_ble_eq_true rfl⟩ ?_
  refine aw_lload_n 1 dX0_libertiesOf_4 rfl ?_
  refine aw_ldc2 (-1 : Int64) rfl (wl2 (i := 118) rfl rfl) dX0_libertiesOf_5 ?_
  refine aw_lxor dX0_libertiesOf_8 ?_
  refine aw_land dX0_libertiesOf_9 ?_
  cases hf
  exact aw_lret dX0_libertiesOf_10 rfl rfl rfl ⟨Nat.le_of_ble_eq_true rfl, Nat.le_of_ble_eq_true rfl⟩
abbrev MX0_leftBehind : xM := (RX0, cX0_leftBehind, 12, (some .long), "leftBehind")
abbrev rmX0_leftBehind : Room := { frames := 2, cells := 0, slots := 0, locals := 51 }
theorem ciX0_leftBehind : Cond.code yX0_leftBehind cX0_leftBehind 12 (some .long) ∈ wt ∧ Cond.initialized yX0_leftBehind.cls ∈ wt ∧ (yX0_leftBehind.cls ≠ "java/lang/invoke/MethodHandle" ∧ yX0_leftBehind.cls ≠ "java/lang/invoke/VarHandle" ∧ (parseMethodDescriptor yX0_leftBehind.desc).map (fun d => d.parameters.length) = some 3) := ⟨wl2 (i := 196) rfl rfl, wl1 (i := 9) rfl rfl, by decide +kernel, by decide +kernel, by decide +kernel⟩
def fX0_leftBehind (a0 : Int64) (a2 : Int64) (a4 : Int64) : Option (Int64) :=
  (if ((a0 ||| a2) &&& a4) = (0 : Int64) then (fX0_around ((562949953421311 : Int64) &&& (((a0 ||| a4) ||| a2) ^^^ (-1 : Int64)))).bind fun q2 => (fX0_flood q2 a2).bind fun q3 => (fX0_flood a4 (a0 ||| a4)).bind fun q4 => (fX0_libertiesOf q4 ((a0 ||| a4) ||| q3)).bind fun q5 => (if q5 = (0 : Int64) then some (-1 : Int64) else some q3) else some (-1 : Int64))
set_option maxHeartbeats 4000000 in
set_option maxRecDepth 100000 in
theorem ctX0_leftBehind {l : Launch} {g : xG} {x : xV} (hl : l.stackTraces = false) {r : Int64} (a0 : Int64) (a2 : Int64) (a4 : Int64) (hf : fX0_leftBehind a0 a2 a4 = some r) : CT yX0_leftBehind MX0_leftBehind rmX0_leftBehind l g [.long a0, .long a2, .long a4] x (.inl (some (.long r))) x := by
  rw [fX0_leftBehind] at hf
  refine CT.of (lv0 := [(0, .long a0), (2, .long a2), (4, .long a4)]) (by decide +kernel) rfl rfl (Nat.le_of_ble_eq_true rfl) rfl hl ?_
  refine aw_lload_n 0 dX0_leftBehind_0 rfl ?_
  refine aw_lload_n 1 dX0_leftBehind_1 rfl ?_
  refine aw_lor dX0_leftBehind_2 ?_
  refine aw_lload 2 dX0_leftBehind_3 rfl ?_
  refine aw_land dX0_leftBehind_5 ?_
  refine aw_lconst (0 : Int64) dX0_leftBehind_6 (by decide) ?_
  refine aw_lcmp_eq 15 dX0_leftBehind_7 dX0_leftBehind_8 (by decide) (fun c1 => ?_) (fun c1 => ?_)
  · rw [if_pos c1] at hf
    refine aw_lload_n 0 dX0_leftBehind_15 rfl ?_
    refine aw_lload 2 dX0_leftBehind_16 rfl ?_
    refine aw_lor dX0_leftBehind_18 ?_
    refine aw_lstore [(6, .long (a0 ||| a4)), (0, .long a0), (2, .long a2), (4, .long a4)] dX0_leftBehind_19 (by decide) rfl ?_
    refine aw_ldc2 (562949953421311 : Int64) rfl (wl2 (i := 106) rfl rfl) dX0_leftBehind_21 ?_
    refine aw_lload 0 dX0_leftBehind_24 rfl ?_
    refine aw_lload_n 2 dX0_leftBehind_26 rfl ?_
    refine aw_lor dX0_leftBehind_27 ?_
    refine aw_ldc2 (-1 : Int64) rfl (wl2 (i := 118) rfl rfl) dX0_leftBehind_28 ?_
    refine aw_lxor dX0_leftBehind_31 ?_
    refine aw_land dX0_leftBehind_32 ?_
    obtain ⟨q2, hq2, hf⟩ := xbind hf
    refine aw_callS [.long ((562949953421311 : Int64) &&& (((a0 ||| a4) ||| a2) ^^^ (-1 : Int64)))] 1 (ctX0_around hl _ hq2) ⟨wl2 (i := 114) rfl rfl, ciX0_around⟩ (wl2 (i := 102) rfl rfl) dX0_leftBehind_33 rfl rfl (Nat.le_of_ble_eq_true rfl) ⟨Nat.le_of_ble_eq_true rfl, Nat.le_of_ble_eq_true rfl⟩ ⟨Nat.le_of_ble_eq_true rfl, Nat.le_of_ble_eq_true rfl⟩ ?_
    refine aw_lload_n 2 dX0_leftBehind_36 rfl ?_
    obtain ⟨q3, hq3, hf⟩ := xbind hf
    refine aw_callS [.long q2, .long a2] 2 (ctX0_flood hl _ _ hq3) ⟨wl2 (i := 197) rfl rfl, ciX0_flood⟩ (wl2 (i := 112) rfl rfl) dX0_leftBehind_37 rfl rfl (Nat.le_of_ble_eq_true rfl) ⟨Nat.le_of_ble_eq_true rfl, Nat.le_of_ble_eq_true rfl⟩ ⟨Nat.le_of_ble_eq_true rfl, Nat.le_of_ble_eq_true rfl⟩ ?_
    refine aw_lstore [(8, .long q3), (6, .long (a0 ||| a4)), (0, .long a0), (2, .long a2), (4, .long a4)] dX0_leftBehind_40 (by decide) rfl ?_
    refine aw_lload 4 dX0_leftBehind_42 rfl ?_
    refine aw_lload 1 dX0_leftBehind_44 rfl ?_
    obtain ⟨q4, hq4, hf⟩ := xbind hf
    refine aw_callS [.long a4, .long (a0 ||| a4)] 2 (ctX0_flood hl _ _ hq4) ⟨wl2 (i := 197) rfl rfl, ciX0_flood⟩ (wl2 (i := 112) rfl rfl) dX0_leftBehind_46 rfl rfl (Nat.le_of_ble_eq_true rfl) ⟨Nat.le_of_ble_eq_true rfl, Nat.le_of_ble_eq_true rfl⟩ ⟨Nat.le_of_ble_eq_true rfl, Nat.le_of_ble_eq_true rfl⟩ ?_
    refine aw_lstore [(10, .long q4), (8, .long q3), (6, .long (a0 ||| a4)), (0, .long a0), (2, .long a2), (4, .long a4)] dX0_leftBehind_49 (by decide) rfl ?_
    refine aw_lload 0 dX0_leftBehind_51 rfl ?_
    refine aw_lload 2 dX0_leftBehind_53 rfl ?_
    refine aw_lload 1 dX0_leftBehind_55 rfl ?_
    refine aw_lor dX0_leftBehind_57 ?_
    obtain ⟨q5, hq5, hf⟩ := xbind hf
    refine aw_callS [.long q4, .long ((a0 ||| a4) ||| q3)] 2 (ctX0_libertiesOf hl _ _ hq5) ⟨wl2 (i := 198) rfl rfl, ciX0_libertiesOf⟩ (wl2 (i := 116) rfl rfl) dX0_leftBehind_58 rfl rfl (Nat.le_of_ble_eq_true rfl) ⟨Nat.le_of_ble_eq_true rfl, Nat.le_of_ble_eq_true rfl⟩ ⟨Nat.le_of_ble_eq_true rfl, Nat.le_of_ble_eq_true rfl⟩ ?_
    refine aw_lconst (0 : Int64) dX0_leftBehind_61 (by decide) ?_
    refine aw_lcmp_ne 72 dX0_leftBehind_62 dX0_leftBehind_63 (by decide) (fun c6 => ?_) (fun c6 => ?_)
    · rw [if_neg c6] at hf
      refine aw_lload 1 dX0_leftBehind_72 rfl ?_
      cases hf
      exact aw_lret dX0_leftBehind_74 rfl rfl rfl ⟨Nat.le_of_ble_eq_true rfl, Nat.le_of_ble_eq_true rfl⟩
    · rw [if_pos c6] at hf
      refine aw_ldc2 (-1 : Int64) rfl (wl2 (i := 118) rfl rfl) dX0_leftBehind_66 ?_
      refine aw_goto 74 dX0_leftBehind_69 (by decide) ?_
      cases hf
      exact aw_lret dX0_leftBehind_74 rfl rfl rfl ⟨Nat.le_of_ble_eq_true rfl, Nat.le_of_ble_eq_true rfl⟩
  · rw [if_neg c1] at hf
    refine aw_ldc2 (-1 : Int64) rfl (wl2 (i := 118) rfl rfl) dX0_leftBehind_11 ?_
    cases hf
    exact aw_lret dX0_leftBehind_14 rfl rfl rfl ⟨Nat.le_of_ble_eq_true rfl, Nat.le_of_ble_eq_true rfl⟩
abbrev MX1_init : xM := (RX1, cX1_init, 4, none, "<init>")
abbrev rmX1_init : Room := { frames := 1, cells := 0, slots := 0, locals := 20 }
theorem ciX1_init : Cond.code yX1_init cX1_init 4 none ∈ wt ∧ Cond.initialized yX1_init.cls ∈ wt ∧ (yX1_init.cls ≠ "java/lang/invoke/MethodHandle" ∧ yX1_init.cls ≠ "java/lang/invoke/VarHandle" ∧ (parseMethodDescriptor yX1_init.desc).map (fun d => d.parameters.length) = some 3) := ⟨wl2 (i := 23) rfl rfl, wl1 (i := 13) rfl rfl, by decide +kernel, by decide +kernel, by decide +kernel⟩
def fX1_init (h : TH) (t : Nat) (a1 : Int32) (a2 : Int32) (a3 : Int32) : Option (TH) :=
  (if t_kd h t = 1 then some (s_I (s_I (s_I h t 0 a1) t 1 a2) t 2 a3) else none)
set_option maxHeartbeats 4000000 in
set_option maxRecDepth 100000 in
theorem ctX1_init {l : Launch} {g : xG} (hl : l.stackTraces = false) {r : TH} (h : TH) (t : Nat) (a1 : Int32) (a2 : Int32) (a3 : Int32) (hf : fX1_init h t a1 a2 a3 = some r) : CT yX1_init MX1_init rmX1_init l g [va_rf (some t), .int a1, .int a2, .int a3] (thE g h) (.inl none) (thE g r) := by
  rw [fX1_init] at hf
  refine CT.of (lv0 := [(0, va_rf (some t)), (1, .int a1), (2, .int a2), (3, .int a3)]) (by decide +kernel) rfl rfl (by simp [lg_sl, cat_q, cat_i, cat_l, cat_r]) (by simp [lv_args, cat_q, cat_i, cat_l, cat_r]) hl ?_
  refine aw_qload_n 0 dX1_init_0 rfl ?_
  refine aw_objInit (r := (some t)) rfl (wl2 (i := 24) rfl rfl) dX1_init_1 (Nat.le_of_ble_eq_true rfl) ⟨Nat.le_of_ble_eq_true rfl, Nat.le_of_ble_eq_true rfl⟩ (wl1 (i := 24) rfl rfl) (wl1 (i := 25) rfl rfl) ?_
  refine aw_qload_n 0 dX1_init_4 rfl ?_
  refine aw_iload_n 1 dX1_init_5 rfl ?_
  obtain ⟨hk_1, hf⟩ := xifn hf
  refine th_putI 0 0 xtX1 rfl hk_1 rfl ⟨by decide, by decide, rfl⟩ rfl rfl rfl (wl2 (i := 25) rfl rfl) rfl dX1_init_6 ?_
  refine aw_qload_n 0 dX1_init_9 rfl ?_
  refine aw_iload_n 2 dX1_init_10 rfl ?_
  refine th_putI 0 1 xtX1 rfl hk_1 rfl ⟨by decide, by decide, rfl⟩ rfl rfl rfl (wl2 (i := 26) rfl rfl) rfl dX1_init_11 ?_
  refine aw_qload_n 0 dX1_init_14 rfl ?_
  refine aw_iload_n 3 dX1_init_15 rfl ?_
  refine th_putIF 0 2 xtX1 rfl hk_1 rfl ⟨by decide, by decide, rfl⟩ rfl rfl rfl (wl2 (i := 27) rfl rfl) rfl rfl rfl dX1_init_16 ?_
  cases hf
  exact aw_vret dX1_init_19 rfl rfl rfl ⟨Nat.le_of_ble_eq_true rfl, Nat.le_of_ble_eq_true rfl⟩
abbrev MX1_reading : xM := (RX1, cX1_reading, 1, (some .int), "reading")
abbrev rmX1_reading : Room := { frames := 0, cells := 0, slots := 0, locals := 0 }
theorem ciX1_reading : Cond.code yX1_reading cX1_reading 1 (some .int) ∈ wt ∧ Cond.initialized yX1_reading.cls ∈ wt ∧ (yX1_reading.cls ≠ "java/lang/invoke/MethodHandle" ∧ yX1_reading.cls ≠ "java/lang/invoke/VarHandle" ∧ (parseMethodDescriptor yX1_reading.desc).map (fun d => d.parameters.length) = some 0) := ⟨wl3 (i := 231) rfl rfl, wl1 (i := 13) rfl rfl, by decide +kernel, by decide +kernel, by decide +kernel⟩
def fX1_reading (h : TH) (t : Nat) : Option (Int32) :=
  (if t_kd h t = 1 then some (((10 : Int32) * (t_I h t 0)) + (t_I h t 1)) else none)
set_option maxHeartbeats 4000000 in
set_option maxRecDepth 100000 in
theorem ctX1_reading {l : Launch} {g : xG} (hl : l.stackTraces = false) {r : Int32} (h : TH) (t : Nat) (hf : fX1_reading h t = some r) : CT yX1_reading MX1_reading rmX1_reading l g [va_rf (some t)] (thE g h) (.inl (some (.int r))) (thE g h) := by
  rw [fX1_reading] at hf
  refine CT.of (lv0 := [(0, va_rf (some t))]) (by decide +kernel) rfl rfl (by simp [lg_sl, cat_q, cat_i, cat_l, cat_r]) (by simp [lv_args, cat_q, cat_i, cat_l, cat_r]) hl ?_
  refine aw_bipush (10 : Int32) dX1_reading_0 (by decide) ?_
  refine aw_qload_n 0 dX1_reading_2 rfl ?_
  obtain ⟨hk_1, hf⟩ := xifn hf
  refine th_getI 0 0 inX1 rfl hk_1 rfl ⟨by decide, by decide, rfl⟩ (wl2 (i := 25) rfl rfl) dX1_reading_3 ?_
  refine aw_imul dX1_reading_6 ?_
  refine aw_qload_n 0 dX1_reading_7 rfl ?_
  refine th_getI 0 1 inX1 rfl hk_1 rfl ⟨by decide, by decide, rfl⟩ (wl2 (i := 26) rfl rfl) dX1_reading_8 ?_
  refine aw_iadd dX1_reading_11 ?_
  cases hf
  exact aw_iret dX1_reading_12 rfl rfl rfl ⟨Nat.le_of_ble_eq_true rfl, Nat.le_of_ble_eq_true rfl⟩
abbrev MX1_take : xM := (RX1, cX1_take, 4, (some .boolean), "take")
abbrev rmX1_take : Room := { frames := 1, cells := 0, slots := 0, locals := 21 }
theorem ciX1_take : Cond.code yX1_take cX1_take 4 (some .boolean) ∈ wt ∧ Cond.initialized yX1_take.cls ∈ wt ∧ (yX1_take.cls ≠ "java/lang/invoke/MethodHandle" ∧ yX1_take.cls ≠ "java/lang/invoke/VarHandle" ∧ (parseMethodDescriptor yX1_take.desc).map (fun d => d.parameters.length) = some 1) := ⟨wl2 (i := 216) rfl rfl, wl1 (i := 13) rfl rfl, by decide +kernel, by decide +kernel, by decide +kernel⟩
def fX1_take_55 (h : TH) (t : Nat) (s0 : Int32) : Option (Bool × TH) :=
  (if t_kd h t = 1 then (if (t_I (s_I h t 1 (x_max (0 : Int32) ((t_I h t 1) - s0))) t 1) ≤ 0 then some (false, (s_I h t 1 (x_max (0 : Int32) ((t_I h t 1) - s0)))) else some (true, (s_I h t 1 (x_max (0 : Int32) ((t_I h t 1) - s0))))) else none)
set_option maxHeartbeats 4000000 in
set_option maxRecDepth 100000 in
theorem wkX1_take_55 {l : Launch} {g : xG} {x0 : xV} (hl : l.stackTraces = false) {r : Bool × TH} (h : TH) (t : Nat) (s0 : Int32) (hf : fX1_take_55 h t s0 = some r) : AW MX1_take rmX1_take l g x0 (.inl (some (.int (bi r.1)))) (thE g r.2) 0 0 (thE g h) 55 [(0, va_rf (some t))] [.int s0] := by
  rw [fX1_take_55] at hf
  refine aw_istore_n [(3, .int s0), (0, va_rf (some t))] dX1_take_55 rfl (by decide) rfl ?_
  refine aw_qload_n 1 dX1_take_56 rfl ?_
  refine aw_iconst (0 : Int32) dX1_take_57 (by decide) ?_
  refine aw_qload_n 1 dX1_take_58 rfl ?_
  obtain ⟨hk_1, hf⟩ := xifn hf
  refine th_getI 0 1 inX1 rfl hk_1 rfl ⟨by decide, by decide, rfl⟩ (wl2 (i := 26) rfl rfl) dX1_take_59 ?_
  refine aw_iload_n 0 dX1_take_62 rfl ?_
  refine aw_isub dX1_take_63 ?_
  refine aw_mmax (wl2 (i := 217) rfl rfl) (wl1 (i := 117) rfl rfl) (wl1 (i := 8) rfl rfl) (wl1 (i := 118) rfl rfl) (by simp [cat_q, cat_i, cat_l, cat_r]) ⟨Nat.le_of_ble_eq_true rfl, Nat.le_of_ble_eq_true rfl⟩ ⟨Nat.le_of_ble_eq_true rfl, Nat.le_of_ble_eq_true rfl⟩ dX1_take_64 ?_
  refine th_putI 0 1 xtX1 rfl hk_1 rfl ⟨by decide, by decide, rfl⟩ rfl rfl rfl (wl2 (i := 26) rfl rfl) rfl dX1_take_67 ?_
  refine aw_qload_n 1 dX1_take_70 rfl ?_
  refine th_getI 0 1 inX1 rfl hk_1 rfl ⟨by decide, by decide, rfl⟩ (wl2 (i := 26) rfl rfl) dX1_take_71 ?_
  refine aw_if_le 81 dX1_take_74 (by decide) (fun c2 => ?_) (fun c2 => ?_)
  · rw [if_pos c2] at hf
    refine aw_iconst (0 : Int32) dX1_take_81 (by decide) ?_
    cases hf
    exact aw_zret dX1_take_82 rfl rfl rfl rfl ⟨Nat.le_of_ble_eq_true rfl, Nat.le_of_ble_eq_true rfl⟩
  · rw [if_neg c2] at hf
    refine aw_iconst (1 : Int32) dX1_take_77 (by decide) ?_
    refine aw_goto 82 dX1_take_78 (by decide) ?_
    cases hf
    exact aw_zret dX1_take_82 rfl rfl rfl rfl ⟨Nat.le_of_ble_eq_true rfl, Nat.le_of_ble_eq_true rfl⟩
def fX1_take (h : TH) (t : Nat) (a1 : Int32) : Option (Bool × TH) :=
  (if t_kd h t = 1 then (if (t_I h t 0) < a1 then (if (1 : Int32) ≤ (t_I (s_I h t 0 (0 : Int32)) t 2) then (if (t_I (s_I h t 0 (0 : Int32)) t 2) = 0 then none else fX1_take_55 (s_I h t 0 (0 : Int32)) t (((a1 - (t_I h t 0)) - (1 : Int32)) / (t_I (s_I h t 0 (0 : Int32)) t 2))) else fX1_take_55 (s_I h t 0 (0 : Int32)) t (t_I (s_I h t 0 (0 : Int32)) t 1)) else some (true, (s_I h t 0 ((t_I h t 0) - a1)))) else none)
set_option maxHeartbeats 4000000 in
set_option maxRecDepth 100000 in
theorem ctX1_take {l : Launch} {g : xG} (hl : l.stackTraces = false) {r : Bool × TH} (h : TH) (t : Nat) (a1 : Int32) (hf : fX1_take h t a1 = some r) : CT yX1_take MX1_take rmX1_take l g [va_rf (some t), .int a1] (thE g h) (.inl (some (.int (bi r.1)))) (thE g r.2) := by
  rw [fX1_take] at hf
  refine CT.of (lv0 := [(0, va_rf (some t)), (1, .int a1)]) (by decide +kernel) rfl rfl (by simp [lg_sl, cat_q, cat_i, cat_l, cat_r]) (by simp [lv_args, cat_q, cat_i, cat_l, cat_r]) hl ?_
  refine aw_iload_n 1 dX1_take_0 rfl ?_
  refine aw_qload_n 0 dX1_take_1 rfl ?_
  obtain ⟨hk_1, hf⟩ := xifn hf
  refine th_getI 0 0 inX1 rfl hk_1 rfl ⟨by decide, by decide, rfl⟩ (wl2 (i := 25) rfl rfl) dX1_take_2 ?_
  refine aw_icmp_gt 20 dX1_take_5 (by decide) (fun c2 => ?_) (fun c2 => ?_)
  · rw [if_pos c2] at hf
    refine aw_iload_n 1 dX1_take_20 rfl ?_
    refine aw_qload_n 0 dX1_take_21 rfl ?_
    refine th_getI 0 0 inX1 rfl hk_1 rfl ⟨by decide, by decide, rfl⟩ (wl2 (i := 25) rfl rfl) dX1_take_22 ?_
    refine aw_isub dX1_take_25 ?_
    refine aw_istore_n [(2, .int (a1 - (t_I h t 0))), (0, va_rf (some t)), (1, .int a1)] dX1_take_26 rfl (by decide) rfl ?_
    refine aw_qload_n 1 dX1_take_27 rfl ?_
    refine aw_iconst (0 : Int32) dX1_take_28 (by decide) ?_
    refine th_putI 0 0 xtX1 rfl hk_1 rfl ⟨by decide, by decide, rfl⟩ rfl rfl rfl (wl2 (i := 25) rfl rfl) rfl dX1_take_29 ?_
    refine aw_qload_n 1 dX1_take_32 rfl ?_
    refine th_getI 0 2 inX1 rfl hk_1 rfl ⟨by decide, by decide, rfl⟩ (wl2 (i := 27) rfl rfl) dX1_take_33 ?_
    refine aw_iconst (1 : Int32) dX1_take_36 (by decide) ?_
    refine aw_icmp_ge 47 dX1_take_37 (by decide) (fun c3 => ?_) (fun c3 => ?_)
    · rw [if_pos c3] at hf
      refine aw_iload_n 0 dX1_take_47 rfl ?_
      refine aw_iconst (1 : Int32) dX1_take_48 (by decide) ?_
      refine aw_isub dX1_take_49 ?_
      refine aw_qload_n 1 dX1_take_50 rfl ?_
      refine th_getI 0 2 inX1 rfl hk_1 rfl ⟨by decide, by decide, rfl⟩ (wl2 (i := 27) rfl rfl) dX1_take_51 ?_
      obtain ⟨hz4, hf⟩ := xifz hf
      refine aw_idiv dX1_take_54 hz4 ?_
      refine aw_lv [1] rfl ?_
      exact wkX1_take_55 hl _ _ _ hf
    · rw [if_neg c3] at hf
      refine aw_qload_n 1 dX1_take_40 rfl ?_
      refine th_getI 0 1 inX1 rfl hk_1 rfl ⟨by decide, by decide, rfl⟩ (wl2 (i := 26) rfl rfl) dX1_take_41 ?_
      refine aw_goto 55 dX1_take_44 (by decide) ?_
      refine aw_lv [1] rfl ?_
      exact wkX1_take_55 hl _ _ _ hf
  · rw [if_neg c2] at hf
    refine aw_qload_n 0 dX1_take_8 rfl ?_
    refine aw_dup dX1_take_9 rfl ?_
    refine th_getI 0 0 inX1 rfl hk_1 rfl ⟨by decide, by decide, rfl⟩ (wl2 (i := 25) rfl rfl) dX1_take_10 ?_
    refine aw_iload_n 1 dX1_take_13 rfl ?_
    refine aw_isub dX1_take_14 ?_
    refine th_putI 0 0 xtX1 rfl hk_1 rfl ⟨by decide, by decide, rfl⟩ rfl rfl rfl (wl2 (i := 25) rfl rfl) rfl dX1_take_15 ?_
    refine aw_iconst (1 : Int32) dX1_take_18 (by decide) ?_
    cases hf
    exact aw_zret dX1_take_19 rfl rfl rfl rfl ⟨Nat.le_of_ble_eq_true rfl, Nat.le_of_ble_eq_true rfl⟩
abbrev MX3_isPlayedBy : xM := (RX3, cX3_isPlayedBy, 2, (some .boolean), "isPlayedBy")
abbrev rmX3_isPlayedBy : Room := { frames := 0, cells := 0, slots := 0, locals := 0 }
theorem ciX3_isPlayedBy : Cond.code yX3_isPlayedBy cX3_isPlayedBy 2 (some .boolean) ∈ wt ∧ Cond.initialized yX3_isPlayedBy.cls ∈ wt ∧ (yX3_isPlayedBy.cls ≠ "java/lang/invoke/MethodHandle" ∧ yX3_isPlayedBy.cls ≠ "java/lang/invoke/VarHandle" ∧ (parseMethodDescriptor yX3_isPlayedBy.desc).map (fun d => d.parameters.length) = some 1) := ⟨wl1 (i := 111) rfl rfl, wl1 (i := 14) rfl rfl, by decide +kernel, by decide +kernel, by decide +kernel⟩
def fX3_isPlayedBy (h : TH) (t : Nat) (a1 : Int32) : Option (Bool) :=
  (if t_kd h t = 3 then (if (t_I h t 0) = a1 then some true else (if (t_I h t 1) = a1 then some true else some false)) else none)
set_option maxHeartbeats 4000000 in
set_option maxRecDepth 100000 in
theorem ctX3_isPlayedBy {l : Launch} {g : xG} (hl : l.stackTraces = false) {r : Bool} (h : TH) (t : Nat) (a1 : Int32) (hf : fX3_isPlayedBy h t a1 = some r) : CT yX3_isPlayedBy MX3_isPlayedBy rmX3_isPlayedBy l g [va_rf (some t), .int a1] (thE g h) (.inl (some (.int (bi r)))) (thE g h) := by
  rw [fX3_isPlayedBy] at hf
  refine CT.of (lv0 := [(0, va_rf (some t)), (1, .int a1)]) (by decide +kernel) rfl rfl (by simp [lg_sl, cat_q, cat_i, cat_l, cat_r]) (by simp [lv_args, cat_q, cat_i, cat_l, cat_r]) hl ?_
  refine aw_qload_n 0 dX3_isPlayedBy_0 rfl ?_
  obtain ⟨hk_1, hf⟩ := xifn hf
  refine th_getI 2 0 inX3 rfl hk_1 rfl ⟨by decide, by decide, rfl⟩ (wl2 (i := 126) rfl rfl) dX3_isPlayedBy_1 ?_
  refine aw_iload_n 1 dX3_isPlayedBy_4 rfl ?_
  refine aw_icmp_eq 16 dX3_isPlayedBy_5 (by decide) (fun c2 => ?_) (fun c2 => ?_)
  · rw [if_pos c2] at hf
    refine aw_iconst (1 : Int32) dX3_isPlayedBy_16 (by decide) ?_
    refine aw_goto 21 dX3_isPlayedBy_17 (by decide) ?_
    cases hf
    exact aw_zret dX3_isPlayedBy_21 rfl rfl rfl rfl ⟨Nat.le_of_ble_eq_true rfl, Nat.le_of_ble_eq_true rfl⟩
  · rw [if_neg c2] at hf
    refine aw_qload_n 0 dX3_isPlayedBy_8 rfl ?_
    refine th_getI 2 1 inX3 rfl hk_1 rfl ⟨by decide, by decide, rfl⟩ (wl2 (i := 128) rfl rfl) dX3_isPlayedBy_9 ?_
    refine aw_iload_n 1 dX3_isPlayedBy_12 rfl ?_
    refine aw_icmp_ne 20 dX3_isPlayedBy_13 (by decide) (fun c3 => ?_) (fun c3 => ?_)
    · rw [if_neg c3] at hf
      refine aw_iconst (0 : Int32) dX3_isPlayedBy_20 (by decide) ?_
      cases hf
      exact aw_zret dX3_isPlayedBy_21 rfl rfl rfl rfl ⟨Nat.le_of_ble_eq_true rfl, Nat.le_of_ble_eq_true rfl⟩
    · rw [if_pos c3] at hf
      refine aw_iconst (1 : Int32) dX3_isPlayedBy_16 (by decide) ?_
      refine aw_goto 21 dX3_isPlayedBy_17 (by decide) ?_
      cases hf
      exact aw_zret dX3_isPlayedBy_21 rfl rfl rfl rfl ⟨Nat.le_of_ble_eq_true rfl, Nat.le_of_ble_eq_true rfl⟩
abbrev MX3_winner : xM := (RX3, cX3_winner, 1, (some .int), "winner")
abbrev rmX3_winner : Room := { frames := 0, cells := 0, slots := 0, locals := 0 }
theorem ciX3_winner : Cond.code yX3_winner cX3_winner 1 (some .int) ∈ wt ∧ Cond.initialized yX3_winner.cls ∈ wt ∧ (yX3_winner.cls ≠ "java/lang/invoke/MethodHandle" ∧ yX3_winner.cls ≠ "java/lang/invoke/VarHandle" ∧ (parseMethodDescriptor yX3_winner.desc).map (fun d => d.parameters.length) = some 0) := ⟨wl1 (i := 115) rfl rfl, wl1 (i := 14) rfl rfl, by decide +kernel, by decide +kernel, by decide +kernel⟩
def fX3_winner (h : TH) (t : Nat) : Option (Int32) :=
  (if t_kd h t = 3 then (if (t_I h t 8) = (1 : Int32) then some ((t_I h t 2) / (100 : Int32)) else some (((t_I h t 2) / (10 : Int32)) - ((t_I h t 2) / (10 : Int32)) / (10 : Int32) * (10 : Int32))) else none)
set_option maxHeartbeats 4000000 in
set_option maxRecDepth 100000 in
theorem ctX3_winner {l : Launch} {g : xG} (hl : l.stackTraces = false) {r : Int32} (h : TH) (t : Nat) (hf : fX3_winner h t = some r) : CT yX3_winner MX3_winner rmX3_winner l g [va_rf (some t)] (thE g h) (.inl (some (.int r))) (thE g h) := by
  rw [fX3_winner] at hf
  refine CT.of (lv0 := [(0, va_rf (some t))]) (by decide +kernel) rfl rfl (by simp [lg_sl, cat_q, cat_i, cat_l, cat_r]) (by simp [lv_args, cat_q, cat_i, cat_l, cat_r]) hl ?_
  refine aw_qload_n 0 dX3_winner_0 rfl ?_
  obtain ⟨hk_1, hf⟩ := xifn hf
  refine th_getI 2 8 inX3 rfl hk_1 rfl ⟨by decide, by decide, rfl⟩ (wl2 (i := 141) rfl rfl) dX3_winner_1 ?_
  refine aw_iconst (1 : Int32) dX3_winner_4 (by decide) ?_
  refine aw_icmp_ne 18 dX3_winner_5 (by decide) (fun c2 => ?_) (fun c2 => ?_)
  · rw [if_neg c2] at hf
    refine aw_qload_n 0 dX3_winner_18 rfl ?_
    refine th_getI 2 2 inX3 rfl hk_1 rfl ⟨by decide, by decide, rfl⟩ (wl2 (i := 130) rfl rfl) dX3_winner_19 ?_
    refine aw_bipush (10 : Int32) dX3_winner_22 (by decide) ?_
    refine aw_idiv dX3_winner_24 (by decide) ?_
    refine aw_bipush (10 : Int32) dX3_winner_25 (by decide) ?_
    refine aw_irem dX3_winner_27 (by decide) ?_
    cases hf
    exact aw_iret dX3_winner_28 rfl rfl rfl ⟨Nat.le_of_ble_eq_true rfl, Nat.le_of_ble_eq_true rfl⟩
  · rw [if_pos c2] at hf
    refine aw_qload_n 0 dX3_winner_8 rfl ?_
    refine th_getI 2 2 inX3 rfl hk_1 rfl ⟨by decide, by decide, rfl⟩ (wl2 (i := 130) rfl rfl) dX3_winner_9 ?_
    refine aw_bipush (100 : Int32) dX3_winner_12 (by decide) ?_
    refine aw_idiv dX3_winner_14 (by decide) ?_
    refine aw_goto 28 dX3_winner_15 (by decide) ?_
    cases hf
    exact aw_iret dX3_winner_28 rfl rfl rfl ⟨Nat.le_of_ble_eq_true rfl, Nat.le_of_ble_eq_true rfl⟩
abbrev MX2_standing : xM := (RX2, cX2_standing, 7, (some .int), "standing")
abbrev rmX2_standing : Room := { frames := 1, cells := 0, slots := 0, locals := 21 }
theorem ciX2_standing : Cond.code yX2_standing cX2_standing 7 (some .int) ∈ wt ∧ Cond.initialized yX2_standing.cls ∈ wt ∧ (yX2_standing.cls ≠ "java/lang/invoke/MethodHandle" ∧ yX2_standing.cls ≠ "java/lang/invoke/VarHandle" ∧ (parseMethodDescriptor yX2_standing.desc).map (fun d => d.parameters.length) = some 2) := ⟨wl1 (i := 107) rfl rfl, wl1 (i := 2) rfl rfl, by decide +kernel, by decide +kernel, by decide +kernel⟩
def fX2_standing_166 (h : TH) (t : Nat) (s0 : Int32) (s1 : Int32) : Option (Int32) :=
  some (s0 + s1)
set_option maxHeartbeats 4000000 in
set_option maxRecDepth 100000 in
theorem wkX2_standing_166 {l : Launch} {g : xG} {x0 : xV} (hl : l.stackTraces = false) {r : Int32} (h : TH) (t : Nat) (s0 : Int32) (s1 : Int32) (hf : fX2_standing_166 h t s0 s1 = some r) : AW MX2_standing rmX2_standing l g x0 (.inl (some (.int r))) (thE g h) 0 0 (thE g h) 166 [] [.int s1, .int s0] := by
  rw [fX2_standing_166] at hf
  refine aw_iadd dX2_standing_166 ?_
  cases hf
  exact aw_iret dX2_standing_167 rfl rfl rfl ⟨Nat.le_of_ble_eq_true rfl, Nat.le_of_ble_eq_true rfl⟩
def fX2_standing_148 (h : TH) (t : Nat) (a3 : Int32) (a4 : Int32) : Option (Int32) :=
  (if 0 ≤ a4 then fX2_standing_166 h t ((10 : Int32) * a3) a4 else fX2_standing_166 h t ((10 : Int32) * a3) ((5 : Int32) - a4))
set_option maxHeartbeats 4000000 in
set_option maxRecDepth 100000 in
theorem wkX2_standing_148 {l : Launch} {g : xG} {x0 : xV} (hl : l.stackTraces = false) {r : Int32} (h : TH) (t : Nat) (a3 : Int32) (a4 : Int32) (hf : fX2_standing_148 h t a3 a4 = some r) : AW MX2_standing rmX2_standing l g x0 (.inl (some (.int r))) (thE g h) 0 0 (thE g h) 148 [(3, .int a3), (4, .int a4)] [] := by
  rw [fX2_standing_148] at hf
  refine aw_bipush (10 : Int32) dX2_standing_148 (by decide) ?_
  refine aw_iload_n 0 dX2_standing_150 rfl ?_
  refine aw_imul dX2_standing_151 ?_
  refine aw_iload 1 dX2_standing_152 rfl ?_
  refine aw_if_ge 164 dX2_standing_154 (by decide) (fun c1 => ?_) (fun c1 => ?_)
  · rw [if_pos c1] at hf
    refine aw_iload 1 dX2_standing_164 rfl ?_
    refine aw_lv [] rfl ?_
    exact wkX2_standing_166 hl _ _ _ _ hf
  · rw [if_neg c1] at hf
    refine aw_iconst (5 : Int32) dX2_standing_157 (by decide) ?_
    refine aw_iload 1 dX2_standing_158 rfl ?_
    refine aw_isub dX2_standing_160 ?_
    refine aw_goto 166 dX2_standing_161 (by decide) ?_
    refine aw_lv [] rfl ?_
    exact wkX2_standing_166 hl _ _ _ _ hf
def fX2_standing_142 (k30 : TH → Nat → Int32 → Int32 → Int32 → Int32 → Int32 → Option (Int32)) (h : TH) (t : Nat) (a1 : Int32) (a2 : Int32) (a3 : Int32) (a4 : Int32) (a5 : Int32) : Option (Int32) :=
  k30 h t a1 a2 a3 a4 (a5 + (1 : Int32))
set_option maxHeartbeats 4000000 in
set_option maxRecDepth 100000 in
theorem wkX2_standing_142 {l : Launch} {g : xG} {x0 : xV} (hl : l.stackTraces = false) {r : Int32} (k30 : TH → Nat → Int32 → Int32 → Int32 → Int32 → Int32 → Option (Int32)) (hk30 : ∀ (h : TH) (t : Nat) (a1 : Int32) (a2 : Int32) (a3 : Int32) (a4 : Int32) (a5 : Int32), k30 h t a1 a2 a3 a4 a5 = some r → AW MX2_standing rmX2_standing l g x0 (.inl (some (.int r))) (thE g h) 0 0 (thE g h) 30 [(0, va_rf (some t)), (1, .int a1), (2, .int a2), (3, .int a3), (4, .int a4), (5, .int a5)] []) (h : TH) (t : Nat) (a1 : Int32) (a2 : Int32) (a3 : Int32) (a4 : Int32) (a5 : Int32) (hf : fX2_standing_142 k30 h t a1 a2 a3 a4 a5 = some r) : AW MX2_standing rmX2_standing l g x0 (.inl (some (.int r))) (thE g h) 0 0 (thE g h) 142 [(0, va_rf (some t)), (1, .int a1), (2, .int a2), (3, .int a3), (4, .int a4), (5, .int a5)] [] := by
  rw [fX2_standing_142] at hf
  refine aw_iinc [(5, .int (a5 + (1 : Int32))), (0, va_rf (some t)), (1, .int a1), (2, .int a2), (3, .int a3), (4, .int a4)] 5 dX2_standing_142 rfl rfl (by decide) rfl ?_
  refine aw_goto 30 dX2_standing_145 (by decide) ?_
  refine aw_lv [1, 2, 3, 4, 5, 0] rfl ?_
  exact hk30 _ _ _ _ _ _ _ hf
def fX2_standing_123 (k30 : TH → Nat → Int32 → Int32 → Int32 → Int32 → Int32 → Option (Int32)) (h : TH) (t : Nat) (a1 : Int32) (a2 : Int32) (a3 : Int32) (a4 : Int32) (a5 : Int32) : Option (Int32) :=
  fX2_standing_142 k30 h t a1 a2 (x_max (0 : Int32) (x_min (20 : Int32) (a3 + (a4 / (3 : Int32))))) (0 : Int32) a5
set_option maxHeartbeats 4000000 in
set_option maxRecDepth 100000 in
theorem wkX2_standing_123 {l : Launch} {g : xG} {x0 : xV} (hl : l.stackTraces = false) {r : Int32} (k30 : TH → Nat → Int32 → Int32 → Int32 → Int32 → Int32 → Option (Int32)) (hk30 : ∀ (h : TH) (t : Nat) (a1 : Int32) (a2 : Int32) (a3 : Int32) (a4 : Int32) (a5 : Int32), k30 h t a1 a2 a3 a4 a5 = some r → AW MX2_standing rmX2_standing l g x0 (.inl (some (.int r))) (thE g h) 0 0 (thE g h) 30 [(0, va_rf (some t)), (1, .int a1), (2, .int a2), (3, .int a3), (4, .int a4), (5, .int a5)] []) (h : TH) (t : Nat) (a1 : Int32) (a2 : Int32) (a3 : Int32) (a4 : Int32) (a5 : Int32) (hf : fX2_standing_123 k30 h t a1 a2 a3 a4 a5 = some r) : AW MX2_standing rmX2_standing l g x0 (.inl (some (.int r))) (thE g h) 0 0 (thE g h) 123 [(0, va_rf (some t)), (1, .int a1), (2, .int a2), (3, .int a3), (4, .int a4), (5, .int a5)] [] := by
  rw [fX2_standing_123] at hf
  refine aw_iconst (0 : Int32) dX2_standing_123 (by decide) ?_
  refine aw_bipush (20 : Int32) dX2_standing_124 (by decide) ?_
  refine aw_iload_n 3 dX2_standing_126 rfl ?_
  refine aw_iload 4 dX2_standing_127 rfl ?_
  refine aw_iconst (3 : Int32) dX2_standing_129 (by decide) ?_
  refine aw_idiv dX2_standing_130 (by decide) ?_
  refine aw_iadd dX2_standing_131 ?_
  refine aw_mmin (wl1 (i := 119) rfl rfl) (wl1 (i := 120) rfl rfl) (wl1 (i := 8) rfl rfl) (wl1 (i := 121) rfl rfl) (Nat.le_of_ble_eq_true rfl) ⟨Nat.le_of_ble_eq_true rfl, Nat.le_of_ble_eq_true rfl⟩ ⟨Nat.le_of_ble_eq_true rfl, Nat.le_of_ble_eq_true rfl⟩ dX2_standing_132 ?_
  refine aw_mmax (wl1 (i := 116) rfl rfl) (wl1 (i := 117) rfl rfl) (wl1 (i := 8) rfl rfl) (wl1 (i := 118) rfl rfl) (Nat.le_of_ble_eq_true rfl) ⟨Nat.le_of_ble_eq_true rfl, Nat.le_of_ble_eq_true rfl⟩ ⟨Nat.le_of_ble_eq_true rfl, Nat.le_of_ble_eq_true rfl⟩ dX2_standing_135 ?_
  refine aw_istore_n [(3, .int (x_max (0 : Int32) (x_min (20 : Int32) (a3 + (a4 / (3 : Int32)))))), (0, va_rf (some t)), (1, .int a1), (2, .int a2), (4, .int a4), (5, .int a5)] dX2_standing_138 rfl (by decide) rfl ?_
  refine aw_iconst (0 : Int32) dX2_standing_139 (by decide) ?_
  refine aw_istore [(4, .int (0 : Int32)), (3, .int (x_max (0 : Int32) (x_min (20 : Int32) (a3 + (a4 / (3 : Int32)))))), (0, va_rf (some t)), (1, .int a1), (2, .int a2), (5, .int a5)] dX2_standing_140 (by decide) rfl ?_
  refine aw_lv [2, 3, 4, 1, 0, 5] rfl ?_
  exact wkX2_standing_142 hl _ hk30 _ _ _ _ _ _ _ hf
def fX2_standing_108 (k30 : TH → Nat → Int32 → Int32 → Int32 → Int32 → Int32 → Option (Int32)) (h : TH) (t : Nat) (a1 : Int32) (a2 : Int32) (a3 : Int32) (a5 : Int32) (s0 : Int32) : Option (Int32) :=
  (if s0 = (3 : Int32) then fX2_standing_123 k30 h t a1 a2 a3 s0 a5 else (if s0 = (-3 : Int32) then fX2_standing_123 k30 h t a1 a2 a3 s0 a5 else fX2_standing_142 k30 h t a1 a2 a3 s0 a5))
set_option maxHeartbeats 4000000 in
set_option maxRecDepth 100000 in
theorem wkX2_standing_108 {l : Launch} {g : xG} {x0 : xV} (hl : l.stackTraces = false) {r : Int32} (k30 : TH → Nat → Int32 → Int32 → Int32 → Int32 → Int32 → Option (Int32)) (hk30 : ∀ (h : TH) (t : Nat) (a1 : Int32) (a2 : Int32) (a3 : Int32) (a4 : Int32) (a5 : Int32), k30 h t a1 a2 a3 a4 a5 = some r → AW MX2_standing rmX2_standing l g x0 (.inl (some (.int r))) (thE g h) 0 0 (thE g h) 30 [(0, va_rf (some t)), (1, .int a1), (2, .int a2), (3, .int a3), (4, .int a4), (5, .int a5)] []) (h : TH) (t : Nat) (a1 : Int32) (a2 : Int32) (a3 : Int32) (a5 : Int32) (s0 : Int32) (hf : fX2_standing_108 k30 h t a1 a2 a3 a5 s0 = some r) : AW MX2_standing rmX2_standing l g x0 (.inl (some (.int r))) (thE g h) 0 0 (thE g h) 108 [(0, va_rf (some t)), (1, .int a1), (2, .int a2), (3, .int a3), (5, .int a5)] [.int s0] := by
  rw [fX2_standing_108] at hf
  refine aw_istore [(4, .int s0), (0, va_rf (some t)), (1, .int a1), (2, .int a2), (3, .int a3), (5, .int a5)] dX2_standing_108 (by decide) rfl ?_
  refine aw_iload 0 dX2_standing_110 rfl ?_
  refine aw_iconst (3 : Int32) dX2_standing_112 (by decide) ?_
  refine aw_icmp_eq 123 dX2_standing_113 (by decide) (fun c1 => ?_) (fun c1 => ?_)
  · rw [if_pos c1] at hf
    refine aw_lv [1, 2, 3, 4, 0, 5] rfl ?_
    exact wkX2_standing_123 hl _ hk30 _ _ _ _ _ _ _ hf
  · rw [if_neg c1] at hf
    refine aw_iload 0 dX2_standing_116 rfl ?_
    refine aw_bipush (-3 : Int32) dX2_standing_118 (by decide) ?_
    refine aw_icmp_ne 142 dX2_standing_120 (by decide) (fun c2 => ?_) (fun c2 => ?_)
    · rw [if_neg c2] at hf
      refine aw_lv [1, 2, 3, 4, 0, 5] rfl ?_
      exact wkX2_standing_142 hl _ hk30 _ _ _ _ _ _ _ hf
    · rw [if_pos c2] at hf
      refine aw_lv [1, 2, 3, 4, 0, 5] rfl ?_
      exact wkX2_standing_123 hl _ hk30 _ _ _ _ _ _ _ hf
def fX2_standing_30 : Nat → TH → Nat → Int32 → Int32 → Int32 → Int32 → Int32 → Option (Int32)
  | 0, _, _, _, _, _, _, _ => none
  | n + 1, h, t, a1, a2, a3, a4, a5 =>
    (if a2 ≤ a5 then fX2_standing_148 h t a3 a4 else (if t_kd h t = 2 then (t_R h t 4).bind fun p3 => (if t_kd h p3 = 12 then (if (nI (t_ln h p3)) ≤ a5 then fX2_standing_148 h t a3 a4 else (if xin a5 (t_ln h p3) = true then (if (t_R h p3 a5.toNatClampNeg) = none then fX2_standing_142 (fX2_standing_30 n) h t a1 a2 a3 a4 a5 else (t_R h p3 a5.toNatClampNeg).bind fun p8 => (if t_kd h p8 = 3 then (if (t_I h p8 9) = 0 then (fX3_isPlayedBy h p8 a1).bind fun q11 => (if q11 = false then fX2_standing_142 (fX2_standing_30 n) h t a1 a2 a3 a4 a5 else (fX3_winner h p8).bind fun q13 => (if q13 = a1 then fX2_standing_108 (fX2_standing_30 n) h t a1 a2 a3 a5 ((x_max a4 (0 : Int32)) + (1 : Int32)) else fX2_standing_108 (fX2_standing_30 n) h t a1 a2 a3 a5 ((x_min a4 (0 : Int32)) - (1 : Int32)))) else fX2_standing_142 (fX2_standing_30 n) h t a1 a2 a3 a4 a5) else none)) else none)) else none) else none))
set_option maxHeartbeats 4000000 in
set_option maxRecDepth 100000 in
theorem wkX2_standing_30 {l : Launch} {g : xG} {x0 : xV} (hl : l.stackTraces = false) {r : Int32} : ∀ (n : Nat) (h : TH) (t : Nat) (a1 : Int32) (a2 : Int32) (a3 : Int32) (a4 : Int32) (a5 : Int32), fX2_standing_30 n h t a1 a2 a3 a4 a5 = some r → AW MX2_standing rmX2_standing l g x0 (.inl (some (.int r))) (thE g h) 0 0 (thE g h) 30 [(0, va_rf (some t)), (1, .int a1), (2, .int a2), (3, .int a3), (4, .int a4), (5, .int a5)] [] := by
  intro n
  induction n with
  | zero => intro h t a1 a2 a3 a4 a5 hf; exact absurd hf (by simp [fX2_standing_30])
  | succ n hk30 =>
    intro h t a1 a2 a3 a4 a5 hf
    rw [fX2_standing_30] at hf
    refine aw_iload 5 dX2_standing_30 rfl ?_
    refine aw_iload_n 2 dX2_standing_32 rfl ?_
    refine aw_icmp_ge 148 dX2_standing_33 (by decide) (fun c1 => ?_) (fun c1 => ?_)
    · rw [if_pos c1] at hf
      refine aw_lv [3, 4] rfl ?_
      exact wkX2_standing_148 hl _ _ _ _ hf
    · rw [if_neg c1] at hf
      refine aw_iload 5 dX2_standing_36 rfl ?_
      refine aw_qload_n 0 dX2_standing_38 rfl ?_
      obtain ⟨hk_2, hf⟩ := xifn hf
      refine th_getR 1 4 inX2 rfl hk_2 rfl ⟨by decide, by decide, rfl⟩ (wl1 (i := 38) rfl rfl) dX2_standing_39 ?_
      obtain ⟨p3, hp3, hf⟩ := xbind hf
      obtain ⟨hk_4, hf⟩ := xifn hf
      refine th_alenM hp3 hk_4 dX2_standing_42 ?_
      refine aw_icmp_ge 148 dX2_standing_43 (by decide) (fun c5 => ?_) (fun c5 => ?_)
      · rw [if_pos c5] at hf
        refine aw_lv [3, 4] rfl ?_
        exact wkX2_standing_148 hl _ _ _ _ hf
      · rw [if_neg c5] at hf
        refine aw_qload_n 0 dX2_standing_46 rfl ?_
        refine th_getR 1 4 inX2 rfl hk_2 rfl ⟨by decide, by decide, rfl⟩ (wl1 (i := 38) rfl rfl) dX2_standing_47 ?_
        refine aw_iload 5 dX2_standing_50 rfl ?_
        obtain ⟨hi6, hf⟩ := xifn hf
        refine th_aaldM hp3 hk_4 (xin_v hi6) dX2_standing_52 ?_
        refine aw_qstore [(6, va_rf (t_R h p3 a5.toNatClampNeg)), (0, va_rf (some t)), (1, .int a1), (2, .int a2), (3, .int a3), (4, .int a4), (5, .int a5)] dX2_standing_53 (by decide) rfl ?_
        refine aw_qload 0 dX2_standing_55 rfl ?_
        refine aw_ifnull 142 dX2_standing_57 (by decide) (fun c7 => ?_) (fun c7 => ?_)
        · rw [if_pos c7] at hf
          refine aw_lv [1, 2, 3, 4, 5, 6] rfl ?_
          exact wkX2_standing_142 hl _ hk30 _ _ _ _ _ _ _ hf
        · rw [if_neg c7] at hf
          refine aw_qload 0 dX2_standing_60 rfl ?_
          obtain ⟨p8, hp8, hf⟩ := xbind hf
          obtain ⟨hk_9, hf⟩ := xifn hf
          refine th_getIN "AtariGarden" 2 9 inX3 hp8 hk_9 rfl ⟨by decide, by decide, rfl⟩ (wm2 (i := 144) rfl) dX2_standing_62 ?_
          refine aw_if_ne 142 dX2_standing_65 (by decide) (fun c10 => ?_) (fun c10 => ?_)
          · rw [if_neg c10] at hf
            refine aw_lv [1, 2, 3, 4, 5, 6] rfl ?_
            exact wkX2_standing_142 hl _ hk30 _ _ _ _ _ _ _ hf
          · rw [if_pos c10] at hf
            refine aw_qload 0 dX2_standing_68 rfl ?_
            refine aw_iload_n 2 dX2_standing_70 rfl ?_
            obtain ⟨q11, hq11, hf⟩ := xbind hf
            refine aw_callV 2 (t_R h p3 a5.toNatClampNeg) [.int a1] 1 hp8 (thC_ob (h := h) hk_9 (by decide)) rfl rfl (ctX3_isPlayedBy hl _ _ _ hq11) ⟨wl1 (i := 108) rfl rfl, ciX3_isPlayedBy⟩ (wl1 (i := 109) rfl rfl) (wl1 (i := 110) rfl rfl) dX2_standing_71 rfl rfl (Nat.le_of_ble_eq_true rfl) ⟨Nat.le_of_ble_eq_true rfl, Nat.le_of_ble_eq_true rfl⟩ ⟨Nat.le_of_ble_eq_true rfl, Nat.le_of_ble_eq_true rfl⟩ ?_
            refine aw_ifb_ne 80 dX2_standing_74 (by decide) (fun c12 => ?_) (fun c12 => ?_)
            · rw [if_neg c12] at hf
              refine aw_qload 0 dX2_standing_80 rfl ?_
              obtain ⟨q13, hq13, hf⟩ := xbind hf
              refine aw_callV 2 (t_R h p3 a5.toNatClampNeg) [] 0 hp8 (thC_ob (h := h) hk_9 (by decide)) rfl rfl (ctX3_winner hl _ _ hq13) ⟨wl1 (i := 112) rfl rfl, ciX3_winner⟩ (wl1 (i := 113) rfl rfl) (wl1 (i := 114) rfl rfl) dX2_standing_82 rfl rfl (Nat.le_of_ble_eq_true rfl) ⟨Nat.le_of_ble_eq_true rfl, Nat.le_of_ble_eq_true rfl⟩ ⟨Nat.le_of_ble_eq_true rfl, Nat.le_of_ble_eq_true rfl⟩ ?_
              refine aw_iload_n 2 dX2_standing_85 rfl ?_
              refine aw_icmp_ne 100 dX2_standing_86 (by decide) (fun c14 => ?_) (fun c14 => ?_)
              · rw [if_neg c14] at hf
                refine aw_iload 5 dX2_standing_100 rfl ?_
                refine aw_iconst (0 : Int32) dX2_standing_102 (by decide) ?_
                refine aw_mmin (wl1 (i := 119) rfl rfl) (wl1 (i := 120) rfl rfl) (wl1 (i := 8) rfl rfl) (wl1 (i := 121) rfl rfl) (Nat.le_of_ble_eq_true rfl) ⟨Nat.le_of_ble_eq_true rfl, Nat.le_of_ble_eq_true rfl⟩ ⟨Nat.le_of_ble_eq_true rfl, Nat.le_of_ble_eq_true rfl⟩ dX2_standing_103 ?_
                refine aw_iconst (1 : Int32) dX2_standing_106 (by decide) ?_
                refine aw_isub dX2_standing_107 ?_
                refine aw_lv [1, 2, 3, 4, 6] rfl ?_
                exact wkX2_standing_108 hl _ hk30 _ _ _ _ _ _ _ hf
              · rw [if_pos c14] at hf
                refine aw_iload 5 dX2_standing_89 rfl ?_
                refine aw_iconst (0 : Int32) dX2_standing_91 (by decide) ?_
                refine aw_mmax (wl1 (i := 116) rfl rfl) (wl1 (i := 117) rfl rfl) (wl1 (i := 8) rfl rfl) (wl1 (i := 118) rfl rfl) (Nat.le_of_ble_eq_true rfl) ⟨Nat.le_of_ble_eq_true rfl, Nat.le_of_ble_eq_true rfl⟩ ⟨Nat.le_of_ble_eq_true rfl, Nat.le_of_ble_eq_true rfl⟩ dX2_standing_92 ?_
                refine aw_iconst (1 : Int32) dX2_standing_95 (by decide) ?_
                refine aw_iadd dX2_standing_96 ?_
                refine aw_goto 108 dX2_standing_97 (by decide) ?_
                refine aw_lv [1, 2, 3, 4, 6] rfl ?_
                exact wkX2_standing_108 hl _ hk30 _ _ _ _ _ _ _ hf
            · rw [if_pos c12] at hf
              refine aw_goto 142 dX2_standing_77 (by decide) ?_
              refine aw_lv [1, 2, 3, 4, 5, 6] rfl ?_
              exact wkX2_standing_142 hl _ hk30 _ _ _ _ _ _ _ hf
def fX2_standing_23 (h : TH) (t : Nat) (a1 : Int32) (a2 : Int32) (s0 : Int32) : Option (Int32) :=
  fX2_standing_30 FU h t a1 a2 s0 (0 : Int32) (0 : Int32)
set_option maxHeartbeats 4000000 in
set_option maxRecDepth 100000 in
theorem wkX2_standing_23 {l : Launch} {g : xG} {x0 : xV} (hl : l.stackTraces = false) {r : Int32} (h : TH) (t : Nat) (a1 : Int32) (a2 : Int32) (s0 : Int32) (hf : fX2_standing_23 h t a1 a2 s0 = some r) : AW MX2_standing rmX2_standing l g x0 (.inl (some (.int r))) (thE g h) 0 0 (thE g h) 23 [(0, va_rf (some t)), (1, .int a1), (2, .int a2)] [.int s0] := by
  rw [fX2_standing_23] at hf
  refine aw_istore_n [(3, .int s0), (0, va_rf (some t)), (1, .int a1), (2, .int a2)] dX2_standing_23 rfl (by decide) rfl ?_
  refine aw_iconst (0 : Int32) dX2_standing_24 (by decide) ?_
  refine aw_istore [(4, .int (0 : Int32)), (3, .int s0), (0, va_rf (some t)), (1, .int a1), (2, .int a2)] dX2_standing_25 (by decide) rfl ?_
  refine aw_iconst (0 : Int32) dX2_standing_27 (by decide) ?_
  refine aw_istore [(5, .int (0 : Int32)), (4, .int (0 : Int32)), (3, .int s0), (0, va_rf (some t)), (1, .int a1), (2, .int a2)] dX2_standing_28 (by decide) rfl ?_
  refine aw_lv [3, 4, 5, 2, 1, 0] rfl ?_
  exact wkX2_standing_30 hl _ _ _ _ _ _ _ _ hf
def fX2_standing (h : TH) (t : Nat) (a1 : Int32) (a2 : Int32) : Option (Int32) :=
  (if a1 < 0 then fX2_standing_23 h t a1 a2 (0 : Int32) else (if t_kd h t = 2 then (t_R h t 0).bind fun p3 => (if t_kd h p3 = 9 then (if a1 < (nI (t_ln h p3)) then (if xin a1 (t_ln h p3) = true then fX2_standing_23 h t a1 a2 (t_I h p3 a1.toNatClampNeg) else none) else fX2_standing_23 h t a1 a2 (0 : Int32)) else none) else none))
set_option maxHeartbeats 4000000 in
set_option maxRecDepth 100000 in
theorem ctX2_standing {l : Launch} {g : xG} (hl : l.stackTraces = false) {r : Int32} (h : TH) (t : Nat) (a1 : Int32) (a2 : Int32) (hf : fX2_standing h t a1 a2 = some r) : CT yX2_standing MX2_standing rmX2_standing l g [va_rf (some t), .int a1, .int a2] (thE g h) (.inl (some (.int r))) (thE g h) := by
  rw [fX2_standing] at hf
  refine CT.of (lv0 := [(0, va_rf (some t)), (1, .int a1), (2, .int a2)]) (by decide +kernel) rfl rfl (by simp [lg_sl, cat_q, cat_i, cat_l, cat_r]) (by simp [lv_args, cat_q, cat_i, cat_l, cat_r]) hl ?_
  refine aw_iload_n 1 dX2_standing_0 rfl ?_
  refine aw_if_lt 13 dX2_standing_1 (by decide) (fun c1 => ?_) (fun c1 => ?_)
  · rw [if_pos c1] at hf
    refine aw_iconst (0 : Int32) dX2_standing_13 (by decide) ?_
    refine aw_goto 23 dX2_standing_14 (by decide) ?_
    refine aw_lv [0, 1, 2] rfl ?_
    exact wkX2_standing_23 hl _ _ _ _ _ hf
  · rw [if_neg c1] at hf
    refine aw_iload_n 1 dX2_standing_4 rfl ?_
    refine aw_qload_n 0 dX2_standing_5 rfl ?_
    obtain ⟨hk_2, hf⟩ := xifn hf
    refine th_getR 1 0 inX2 rfl hk_2 rfl ⟨by decide, by decide, rfl⟩ (wl1 (i := 34) rfl rfl) dX2_standing_6 ?_
    obtain ⟨p3, hp3, hf⟩ := xbind hf
    obtain ⟨hk_4, hf⟩ := xifn hf
    refine th_alenI hp3 hk_4 dX2_standing_9 ?_
    refine aw_icmp_lt 17 dX2_standing_10 (by decide) (fun c5 => ?_) (fun c5 => ?_)
    · rw [if_pos c5] at hf
      refine aw_qload_n 0 dX2_standing_17 rfl ?_
      refine th_getR 1 0 inX2 rfl hk_2 rfl ⟨by decide, by decide, rfl⟩ (wl1 (i := 34) rfl rfl) dX2_standing_18 ?_
      refine aw_iload_n 1 dX2_standing_21 rfl ?_
      obtain ⟨hi6, hf⟩ := xifn hf
      refine th_iald hp3 hk_4 (xin_v hi6) dX2_standing_22 ?_
      refine aw_lv [0, 1, 2] rfl ?_
      exact wkX2_standing_23 hl _ _ _ _ _ hf
    · rw [if_neg c5] at hf
      refine aw_iconst (0 : Int32) dX2_standing_13 (by decide) ?_
      refine aw_goto 23 dX2_standing_14 (by decide) ?_
      refine aw_lv [0, 1, 2] rfl ?_
      exact wkX2_standing_23 hl _ _ _ _ _ hf
abbrev MX2_pairing : xM := (RX2, cX2_pairing, 9, (some .int), "pairing")
abbrev rmX2_pairing : Room := { frames := 2, cells := 0, slots := 0, locals := 47 }
theorem ciX2_pairing : Cond.code yX2_pairing cX2_pairing 9 (some .int) ∈ wt ∧ Cond.initialized yX2_pairing.cls ∈ wt ∧ (yX2_pairing.cls ≠ "java/lang/invoke/MethodHandle" ∧ yX2_pairing.cls ≠ "java/lang/invoke/VarHandle" ∧ (parseMethodDescriptor yX2_pairing.desc).map (fun d => d.parameters.length) = some 3) := ⟨wl1 (i := 103) rfl rfl, wl1 (i := 2) rfl rfl, by decide +kernel, by decide +kernel, by decide +kernel⟩
def fX2_pairing_58 (h : TH) (t : Nat) (a4 : Int32) (a5 : Int32) (a7 : Int32) (s0 : Int32) : Option (Int32) :=
  some ((((100 : Int32) * a7) + ((10 : Int32) * s0)) + (x_min (4 : Int32) (x_abs (a4 - a5))))
set_option maxHeartbeats 4000000 in
set_option maxRecDepth 100000 in
theorem wkX2_pairing_58 {l : Launch} {g : xG} {x0 : xV} (hl : l.stackTraces = false) {r : Int32} (h : TH) (t : Nat) (a4 : Int32) (a5 : Int32) (a7 : Int32) (s0 : Int32) (hf : fX2_pairing_58 h t a4 a5 a7 s0 = some r) : AW MX2_pairing rmX2_pairing l g x0 (.inl (some (.int r))) (thE g h) 0 0 (thE g h) 58 [(4, .int a4), (5, .int a5), (7, .int a7)] [.int s0] := by
  rw [fX2_pairing_58] at hf
  refine aw_istore [(8, .int s0), (4, .int a4), (5, .int a5), (7, .int a7)] dX2_pairing_58 (by decide) rfl ?_
  refine aw_bipush (100 : Int32) dX2_pairing_60 (by decide) ?_
  refine aw_iload 3 dX2_pairing_62 rfl ?_
  refine aw_imul dX2_pairing_64 ?_
  refine aw_bipush (10 : Int32) dX2_pairing_65 (by decide) ?_
  refine aw_iload 0 dX2_pairing_67 rfl ?_
  refine aw_imul dX2_pairing_69 ?_
  refine aw_iadd dX2_pairing_70 ?_
  refine aw_iconst (4 : Int32) dX2_pairing_71 (by decide) ?_
  refine aw_iload 1 dX2_pairing_72 rfl ?_
  refine aw_iload 2 dX2_pairing_74 rfl ?_
  refine aw_isub dX2_pairing_76 ?_
  refine aw_mabs (wl1 (i := 122) rfl rfl) (wl1 (i := 123) rfl rfl) (wl1 (i := 8) rfl rfl) (wl1 (i := 124) rfl rfl) (Nat.le_of_ble_eq_true rfl) ⟨Nat.le_of_ble_eq_true rfl, Nat.le_of_ble_eq_true rfl⟩ ⟨Nat.le_of_ble_eq_true rfl, Nat.le_of_ble_eq_true rfl⟩ dX2_pairing_77 ?_
  refine aw_mmin (wl1 (i := 119) rfl rfl) (wl1 (i := 120) rfl rfl) (wl1 (i := 8) rfl rfl) (wl1 (i := 121) rfl rfl) (Nat.le_of_ble_eq_true rfl) ⟨Nat.le_of_ble_eq_true rfl, Nat.le_of_ble_eq_true rfl⟩ ⟨Nat.le_of_ble_eq_true rfl, Nat.le_of_ble_eq_true rfl⟩ dX2_pairing_80 ?_
  refine aw_iadd dX2_pairing_83 ?_
  cases hf
  exact aw_iret dX2_pairing_84 rfl rfl rfl ⟨Nat.le_of_ble_eq_true rfl, Nat.le_of_ble_eq_true rfl⟩
def fX2_pairing_46 (h : TH) (t : Nat) (a1 : Int32) (a2 : Int32) (a4 : Int32) (a5 : Int32) (a6 : Int32) (s0 : Int32) : Option (Int32) :=
  (if a6 = 0 then fX2_pairing_58 h t a4 a5 s0 a1 else fX2_pairing_58 h t a4 a5 s0 a2)
set_option maxHeartbeats 4000000 in
set_option maxRecDepth 100000 in
theorem wkX2_pairing_46 {l : Launch} {g : xG} {x0 : xV} (hl : l.stackTraces = false) {r : Int32} (h : TH) (t : Nat) (a1 : Int32) (a2 : Int32) (a4 : Int32) (a5 : Int32) (a6 : Int32) (s0 : Int32) (hf : fX2_pairing_46 h t a1 a2 a4 a5 a6 s0 = some r) : AW MX2_pairing rmX2_pairing l g x0 (.inl (some (.int r))) (thE g h) 0 0 (thE g h) 46 [(1, .int a1), (2, .int a2), (4, .int a4), (5, .int a5), (6, .int a6)] [.int s0] := by
  rw [fX2_pairing_46] at hf
  refine aw_istore [(7, .int s0), (1, .int a1), (2, .int a2), (4, .int a4), (5, .int a5), (6, .int a6)] dX2_pairing_46 (by decide) rfl ?_
  refine aw_iload 5 dX2_pairing_48 rfl ?_
  refine aw_if_eq 57 dX2_pairing_50 (by decide) (fun c1 => ?_) (fun c1 => ?_)
  · rw [if_pos c1] at hf
    refine aw_iload_n 1 dX2_pairing_57 rfl ?_
    refine aw_lv [3, 4, 0] rfl ?_
    exact wkX2_pairing_58 hl _ _ _ _ _ _ hf
  · rw [if_neg c1] at hf
    refine aw_iload_n 2 dX2_pairing_53 rfl ?_
    refine aw_goto 58 dX2_pairing_54 (by decide) ?_
    refine aw_lv [3, 4, 0] rfl ?_
    exact wkX2_pairing_58 hl _ _ _ _ _ _ hf
def fX2_pairing_34 (h : TH) (t : Nat) (a1 : Int32) (a2 : Int32) (a4 : Int32) (a5 : Int32) (s0 : Int32) : Option (Int32) :=
  (if s0 = 0 then fX2_pairing_46 h t a1 a2 a4 a5 s0 a2 else fX2_pairing_46 h t a1 a2 a4 a5 s0 a1)
set_option maxHeartbeats 4000000 in
set_option maxRecDepth 100000 in
theorem wkX2_pairing_34 {l : Launch} {g : xG} {x0 : xV} (hl : l.stackTraces = false) {r : Int32} (h : TH) (t : Nat) (a1 : Int32) (a2 : Int32) (a4 : Int32) (a5 : Int32) (s0 : Int32) (hf : fX2_pairing_34 h t a1 a2 a4 a5 s0 = some r) : AW MX2_pairing rmX2_pairing l g x0 (.inl (some (.int r))) (thE g h) 0 0 (thE g h) 34 [(1, .int a1), (2, .int a2), (4, .int a4), (5, .int a5)] [.int s0] := by
  rw [fX2_pairing_34] at hf
  refine aw_istore [(6, .int s0), (1, .int a1), (2, .int a2), (4, .int a4), (5, .int a5)] dX2_pairing_34 (by decide) rfl ?_
  refine aw_iload 0 dX2_pairing_36 rfl ?_
  refine aw_if_eq 45 dX2_pairing_38 (by decide) (fun c1 => ?_) (fun c1 => ?_)
  · rw [if_pos c1] at hf
    refine aw_iload_n 2 dX2_pairing_45 rfl ?_
    refine aw_lv [1, 2, 3, 4, 0] rfl ?_
    exact wkX2_pairing_46 hl _ _ _ _ _ _ _ _ hf
  · rw [if_neg c1] at hf
    refine aw_iload_n 1 dX2_pairing_41 rfl ?_
    refine aw_goto 46 dX2_pairing_42 (by decide) ?_
    refine aw_lv [1, 2, 3, 4, 0] rfl ?_
    exact wkX2_pairing_46 hl _ _ _ _ _ _ _ _ hf
def fX2_pairing (h : TH) (t : Nat) (a1 : Int32) (a2 : Int32) (a3 : Int32) : Option (Int32) :=
  (if t_kd h t = 2 then (fX2_standing h t a1 a3).bind fun q2 => (fX2_standing h t a2 a3).bind fun q3 => (if (q3 / (10 : Int32)) < (q2 / (10 : Int32)) then fX2_pairing_34 h t a1 a2 (q2 / (10 : Int32)) (q3 / (10 : Int32)) (0 : Int32) else fX2_pairing_34 h t a1 a2 (q2 / (10 : Int32)) (q3 / (10 : Int32)) (1 : Int32)) else none)
set_option maxHeartbeats 4000000 in
set_option maxRecDepth 100000 in
theorem ctX2_pairing {l : Launch} {g : xG} (hl : l.stackTraces = false) {r : Int32} (h : TH) (t : Nat) (a1 : Int32) (a2 : Int32) (a3 : Int32) (hf : fX2_pairing h t a1 a2 a3 = some r) : CT yX2_pairing MX2_pairing rmX2_pairing l g [va_rf (some t), .int a1, .int a2, .int a3] (thE g h) (.inl (some (.int r))) (thE g h) := by
  rw [fX2_pairing] at hf
  refine CT.of (lv0 := [(0, va_rf (some t)), (1, .int a1), (2, .int a2), (3, .int a3)]) (by decide +kernel) rfl rfl (by simp [lg_sl, cat_q, cat_i, cat_l, cat_r]) (by simp [lv_args, cat_q, cat_i, cat_l, cat_r]) hl ?_
  refine aw_qload_n 0 dX2_pairing_0 rfl ?_
  refine aw_iload_n 1 dX2_pairing_1 rfl ?_
  refine aw_iload_n 3 dX2_pairing_2 rfl ?_
  obtain ⟨hk_1, hf⟩ := xifn hf
  obtain ⟨q2, hq2, hf⟩ := xbind hf
  refine aw_callV 1 (some t) [.int a1, .int a3] 2 rfl (thC_ob (h := h) hk_1 (by decide)) rfl rfl (ctX2_standing hl _ _ _ _ hq2) ⟨wl1 (i := 104) rfl rfl, ciX2_standing⟩ (wl1 (i := 105) rfl rfl) (wl1 (i := 106) rfl rfl) dX2_pairing_3 rfl rfl (Nat.le_of_ble_eq_true rfl) ⟨Nat.le_of_ble_eq_true rfl, Nat.le_of_ble_eq_true rfl⟩ ⟨Nat.le_of_ble_eq_true rfl, Nat.le_of_ble_eq_true rfl⟩ ?_
  refine aw_bipush (10 : Int32) dX2_pairing_6 (by decide) ?_
  refine aw_idiv dX2_pairing_8 (by decide) ?_
  refine aw_istore [(4, .int (q2 / (10 : Int32))), (0, va_rf (some t)), (1, .int a1), (2, .int a2), (3, .int a3)] dX2_pairing_9 (by decide) rfl ?_
  refine aw_qload_n 1 dX2_pairing_11 rfl ?_
  refine aw_iload_n 3 dX2_pairing_12 rfl ?_
  refine aw_iload_n 4 dX2_pairing_13 rfl ?_
  obtain ⟨q3, hq3, hf⟩ := xbind hf
  refine aw_callV 1 (some t) [.int a2, .int a3] 2 rfl (thC_ob (h := h) hk_1 (by decide)) rfl rfl (ctX2_standing hl _ _ _ _ hq3) ⟨wl1 (i := 104) rfl rfl, ciX2_standing⟩ (wl1 (i := 105) rfl rfl) (wl1 (i := 106) rfl rfl) dX2_pairing_14 rfl rfl (Nat.le_of_ble_eq_true rfl) ⟨Nat.le_of_ble_eq_true rfl, Nat.le_of_ble_eq_true rfl⟩ ⟨Nat.le_of_ble_eq_true rfl, Nat.le_of_ble_eq_true rfl⟩ ?_
  refine aw_bipush (10 : Int32) dX2_pairing_17 (by decide) ?_
  refine aw_idiv dX2_pairing_19 (by decide) ?_
  refine aw_istore [(5, .int (q3 / (10 : Int32))), (4, .int (q2 / (10 : Int32))), (0, va_rf (some t)), (1, .int a1), (2, .int a2), (3, .int a3)] dX2_pairing_20 (by decide) rfl ?_
  refine aw_iload 1 dX2_pairing_22 rfl ?_
  refine aw_iload 0 dX2_pairing_24 rfl ?_
  refine aw_icmp_gt 33 dX2_pairing_26 (by decide) (fun c4 => ?_) (fun c4 => ?_)
  · rw [if_pos c4] at hf
    refine aw_iconst (0 : Int32) dX2_pairing_33 (by decide) ?_
    refine aw_lv [3, 4, 1, 0] rfl ?_
    exact wkX2_pairing_34 hl _ _ _ _ _ _ _ hf
  · rw [if_neg c4] at hf
    refine aw_iconst (1 : Int32) dX2_pairing_29 (by decide) ?_
    refine aw_goto 34 dX2_pairing_30 (by decide) ?_
    refine aw_lv [3, 4, 1, 0] rfl ?_
    exact wkX2_pairing_34 hl _ _ _ _ _ _ _ hf
abbrev MX2_duePairing : xM := (RX2, cX2_duePairing, 2, (some .int), "duePairing")
abbrev rmX2_duePairing : Room := { frames := 3, cells := 0, slots := 0, locals := 75 }
theorem ciX2_duePairing : Cond.code yX2_duePairing cX2_duePairing 2 (some .int) ∈ wt ∧ Cond.initialized yX2_duePairing.cls ∈ wt ∧ (yX2_duePairing.cls ≠ "java/lang/invoke/MethodHandle" ∧ yX2_duePairing.cls ≠ "java/lang/invoke/VarHandle" ∧ (parseMethodDescriptor yX2_duePairing.desc).map (fun d => d.parameters.length) = some 1) := ⟨wl1 (i := 99) rfl rfl, wl1 (i := 2) rfl rfl, by decide +kernel, by decide +kernel, by decide +kernel⟩
def fX2_duePairing (h : TH) (t : Nat) (a1 : Option Nat) : Option (Int32) :=
  a1.bind fun p1 => (if t_kd h p1 = 3 then (if t_kd h t = 2 then (fX2_pairing h t (t_I h p1 0) (t_I h p1 1) (t_I h p1 3)).bind fun q4 => some q4 else none) else none)
set_option maxHeartbeats 4000000 in
set_option maxRecDepth 100000 in
theorem ctX2_duePairing {l : Launch} {g : xG} (hl : l.stackTraces = false) {r : Int32} (h : TH) (t : Nat) (a1 : Option Nat) (hf : fX2_duePairing h t a1 = some r) : CT yX2_duePairing MX2_duePairing rmX2_duePairing l g [va_rf (some t), va_rf a1] (thE g h) (.inl (some (.int r))) (thE g h) := by
  rw [fX2_duePairing] at hf
  refine CT.of (lv0 := [(0, va_rf (some t)), (1, va_rf a1)]) (by decide +kernel) rfl rfl (by simp [lg_sl, cat_q, cat_i, cat_l, cat_r]) (by simp [lv_args, cat_q, cat_i, cat_l, cat_r]) hl ?_
  refine aw_qload_n 0 dX2_duePairing_0 rfl ?_
  refine aw_qload_n 1 dX2_duePairing_1 rfl ?_
  obtain ⟨p1, hp1, hf⟩ := xbind hf
  obtain ⟨hk_2, hf⟩ := xifn hf
  refine th_getIN "AtariGarden" 2 0 inX3 hp1 hk_2 rfl ⟨by decide, by decide, rfl⟩ (wm2 (i := 127) rfl) dX2_duePairing_2 ?_
  refine aw_qload_n 1 dX2_duePairing_5 rfl ?_
  refine th_getIN "AtariGarden" 2 1 inX3 hp1 hk_2 rfl ⟨by decide, by decide, rfl⟩ (wm2 (i := 129) rfl) dX2_duePairing_6 ?_
  refine aw_qload_n 1 dX2_duePairing_9 rfl ?_
  refine th_getIN "AtariGarden" 2 3 inX3 hp1 hk_2 rfl ⟨by decide, by decide, rfl⟩ (wm2 (i := 134) rfl) dX2_duePairing_10 ?_
  obtain ⟨hk_3, hf⟩ := xifn hf
  obtain ⟨q4, hq4, hf⟩ := xbind hf
  refine aw_callV 1 (some t) [.int (t_I h p1 0), .int (t_I h p1 1), .int (t_I h p1 3)] 3 rfl (thC_ob (h := h) hk_3 (by decide)) rfl rfl (ctX2_pairing hl _ _ _ _ _ hq4) ⟨wl1 (i := 100) rfl rfl, ciX2_pairing⟩ (wl1 (i := 102) rfl rfl) (wl0 (i := 2) rfl rfl) dX2_duePairing_13 rfl rfl (Nat.le_of_ble_eq_true rfl) ⟨Nat.le_of_ble_eq_true rfl, Nat.le_of_ble_eq_true rfl⟩ ⟨Nat.le_of_ble_eq_true rfl, Nat.le_of_ble_eq_true rfl⟩ ?_
  cases hf
  exact aw_iret dX2_duePairing_16 rfl rfl rfl ⟨Nat.le_of_ble_eq_true rfl, Nat.le_of_ble_eq_true rfl⟩
abbrev MX2_isOff : xM := (RX2, cX2_isOff, 2, (some .boolean), "isOff")
abbrev rmX2_isOff : Room := { frames := 4, cells := 0, slots := 0, locals := 96 }
theorem ciX2_isOff : Cond.code yX2_isOff cX2_isOff 2 (some .boolean) ∈ wt ∧ Cond.initialized yX2_isOff.cls ∈ wt ∧ (yX2_isOff.cls ≠ "java/lang/invoke/MethodHandle" ∧ yX2_isOff.cls ≠ "java/lang/invoke/VarHandle" ∧ (parseMethodDescriptor yX2_isOff.desc).map (fun d => d.parameters.length) = some 1) := ⟨wl1 (i := 95) rfl rfl, wl1 (i := 2) rfl rfl, by decide +kernel, by decide +kernel, by decide +kernel⟩
def fX2_isOff (h : TH) (t : Nat) (a1 : Option Nat) : Option (Bool) :=
  a1.bind fun p1 => (if t_kd h p1 = 3 then (if (t_I h p1 9) = 0 then (if t_kd h t = 2 then (fX2_duePairing h t a1).bind fun q5 => (if (t_I h p1 2) = q5 then some false else some true) else none) else some false) else none)
set_option maxHeartbeats 4000000 in
set_option maxRecDepth 100000 in
theorem ctX2_isOff {l : Launch} {g : xG} (hl : l.stackTraces = false) {r : Bool} (h : TH) (t : Nat) (a1 : Option Nat) (hf : fX2_isOff h t a1 = some r) : CT yX2_isOff MX2_isOff rmX2_isOff l g [va_rf (some t), va_rf a1] (thE g h) (.inl (some (.int (bi r)))) (thE g h) := by
  rw [fX2_isOff] at hf
  refine CT.of (lv0 := [(0, va_rf (some t)), (1, va_rf a1)]) (by decide +kernel) rfl rfl (by simp [lg_sl, cat_q, cat_i, cat_l, cat_r]) (by simp [lv_args, cat_q, cat_i, cat_l, cat_r]) hl ?_
  refine aw_qload_n 1 dX2_isOff_0 rfl ?_
  obtain ⟨p1, hp1, hf⟩ := xbind hf
  obtain ⟨hk_2, hf⟩ := xifn hf
  refine th_getIN "AtariGarden" 2 9 inX3 hp1 hk_2 rfl ⟨by decide, by decide, rfl⟩ (wm2 (i := 144) rfl) dX2_isOff_1 ?_
  refine aw_if_ne 23 dX2_isOff_4 (by decide) (fun c3 => ?_) (fun c3 => ?_)
  · rw [if_neg c3] at hf
    refine aw_iconst (0 : Int32) dX2_isOff_23 (by decide) ?_
    cases hf
    exact aw_zret dX2_isOff_24 rfl rfl rfl rfl ⟨Nat.le_of_ble_eq_true rfl, Nat.le_of_ble_eq_true rfl⟩
  · rw [if_pos c3] at hf
    refine aw_qload_n 1 dX2_isOff_7 rfl ?_
    refine th_getIN "AtariGarden" 2 2 inX3 hp1 hk_2 rfl ⟨by decide, by decide, rfl⟩ (wm2 (i := 132) rfl) dX2_isOff_8 ?_
    refine aw_qload_n 0 dX2_isOff_11 rfl ?_
    refine aw_qload_n 1 dX2_isOff_12 rfl ?_
    obtain ⟨hk_4, hf⟩ := xifn hf
    obtain ⟨q5, hq5, hf⟩ := xbind hf
    refine aw_callV 1 (some t) [va_rf a1] 1 rfl (thC_ob (h := h) hk_4 (by decide)) rfl rfl (ctX2_duePairing hl _ _ _ hq5) ⟨wl1 (i := 96) rfl rfl, ciX2_duePairing⟩ (wl1 (i := 97) rfl rfl) (wl1 (i := 98) rfl rfl) dX2_isOff_13 rfl rfl (Nat.le_of_ble_eq_true rfl) ⟨Nat.le_of_ble_eq_true rfl, Nat.le_of_ble_eq_true rfl⟩ ⟨Nat.le_of_ble_eq_true rfl, Nat.le_of_ble_eq_true rfl⟩ ?_
    refine aw_icmp_eq 23 dX2_isOff_16 (by decide) (fun c6 => ?_) (fun c6 => ?_)
    · rw [if_pos c6] at hf
      refine aw_iconst (0 : Int32) dX2_isOff_23 (by decide) ?_
      cases hf
      exact aw_zret dX2_isOff_24 rfl rfl rfl rfl ⟨Nat.le_of_ble_eq_true rfl, Nat.le_of_ble_eq_true rfl⟩
    · rw [if_neg c6] at hf
      refine aw_iconst (1 : Int32) dX2_isOff_19 (by decide) ?_
      refine aw_goto 24 dX2_isOff_20 (by decide) ?_
      cases hf
      exact aw_zret dX2_isOff_24 rfl rfl rfl rfl ⟨Nat.le_of_ble_eq_true rfl, Nat.le_of_ble_eq_true rfl⟩
abbrev MX2_lowestOff : xM := (RX2, cX2_lowestOff, 3, (some (.object "AtariGarden$Match")), "lowestOff")
abbrev rmX2_lowestOff : Room := { frames := 5, cells := 0, slots := 0, locals := 117 }
theorem ciX2_lowestOff : Cond.code yX2_lowestOff cX2_lowestOff 3 (some (.object "AtariGarden$Match")) ∈ wt ∧ Cond.initialized yX2_lowestOff.cls ∈ wt ∧ (yX2_lowestOff.cls ≠ "java/lang/invoke/MethodHandle" ∧ yX2_lowestOff.cls ≠ "java/lang/invoke/VarHandle" ∧ (parseMethodDescriptor yX2_lowestOff.desc).map (fun d => d.parameters.length) = some 0) := ⟨wl1 (i := 91) rfl rfl, wl1 (i := 2) rfl rfl, by decide +kernel, by decide +kernel, by decide +kernel⟩
def fX2_lowestOff_32 (k2 : TH → Nat → Int32 → Option (Option Nat)) (h : TH) (t : Nat) (a1 : Int32) : Option (Option Nat) :=
  k2 h t (a1 + (1 : Int32))
set_option maxHeartbeats 4000000 in
set_option maxRecDepth 100000 in
theorem wkX2_lowestOff_32 {l : Launch} {g : xG} {x0 : xV} (hl : l.stackTraces = false) {r : Option Nat} (k2 : TH → Nat → Int32 → Option (Option Nat)) (hk2 : ∀ (h : TH) (t : Nat) (a1 : Int32), k2 h t a1 = some r → AW MX2_lowestOff rmX2_lowestOff l g x0 (.inl (some (va_rf r))) (thE g h) 0 0 (thE g h) 2 [(0, va_rf (some t)), (1, .int a1)] []) (h : TH) (t : Nat) (a1 : Int32) (hf : fX2_lowestOff_32 k2 h t a1 = some r) : AW MX2_lowestOff rmX2_lowestOff l g x0 (.inl (some (va_rf r))) (thE g h) 0 0 (thE g h) 32 [(0, va_rf (some t)), (1, .int a1)] [] := by
  rw [fX2_lowestOff_32] at hf
  refine aw_iinc [(1, .int (a1 + (1 : Int32))), (0, va_rf (some t))] 1 dX2_lowestOff_32 rfl rfl (by decide) rfl ?_
  refine aw_goto 2 dX2_lowestOff_35 (by decide) ?_
  refine aw_lv [1, 0] rfl ?_
  exact hk2 _ _ _ hf
def fX2_lowestOff_2 : Nat → TH → Nat → Int32 → Option (Option Nat)
  | 0, _, _, _ => none
  | n + 1, h, t, a1 =>
    (if t_kd h t = 2 then (t_R h t 2).bind fun p2 => (if t_kd h p2 = 12 then (if (nI (t_ln h p2)) ≤ a1 then some none else (if xin a1 (t_ln h p2) = true then (if (t_R h p2 a1.toNatClampNeg) = none then fX2_lowestOff_32 (fX2_lowestOff_2 n) h t a1 else (fX2_isOff h t (t_R h p2 a1.toNatClampNeg)).bind fun q7 => (if q7 = false then fX2_lowestOff_32 (fX2_lowestOff_2 n) h t a1 else some (t_R h p2 a1.toNatClampNeg))) else none)) else none) else none)
set_option maxHeartbeats 4000000 in
set_option maxRecDepth 100000 in
theorem wkX2_lowestOff_2 {l : Launch} {g : xG} {x0 : xV} (hl : l.stackTraces = false) {r : Option Nat} : ∀ (n : Nat) (h : TH) (t : Nat) (a1 : Int32), fX2_lowestOff_2 n h t a1 = some r → AW MX2_lowestOff rmX2_lowestOff l g x0 (.inl (some (va_rf r))) (thE g h) 0 0 (thE g h) 2 [(0, va_rf (some t)), (1, .int a1)] [] := by
  intro n
  induction n with
  | zero => intro h t a1 hf; exact absurd hf (by simp [fX2_lowestOff_2])
  | succ n hk2 =>
    intro h t a1 hf
    rw [fX2_lowestOff_2] at hf
    refine aw_iload_n 1 dX2_lowestOff_2 rfl ?_
    refine aw_qload_n 0 dX2_lowestOff_3 rfl ?_
    obtain ⟨hk_1, hf⟩ := xifn hf
    refine th_getR 1 2 inX2 rfl hk_1 rfl ⟨by decide, by decide, rfl⟩ (wl1 (i := 36) rfl rfl) dX2_lowestOff_4 ?_
    obtain ⟨p2, hp2, hf⟩ := xbind hf
    obtain ⟨hk_3, hf⟩ := xifn hf
    refine th_alenM hp2 hk_3 dX2_lowestOff_7 ?_
    refine aw_icmp_ge 38 dX2_lowestOff_8 (by decide) (fun c4 => ?_) (fun c4 => ?_)
    · rw [if_pos c4] at hf
      refine aw_null dX2_lowestOff_38 ?_
      cases hf
      exact aw_aret "AtariGarden$Match" dX2_lowestOff_39 rfl rfl rfl ⟨Nat.le_of_ble_eq_true rfl, Nat.le_of_ble_eq_true rfl⟩
    · rw [if_neg c4] at hf
      refine aw_qload_n 0 dX2_lowestOff_11 rfl ?_
      refine th_getR 1 2 inX2 rfl hk_1 rfl ⟨by decide, by decide, rfl⟩ (wl1 (i := 36) rfl rfl) dX2_lowestOff_12 ?_
      refine aw_iload_n 1 dX2_lowestOff_15 rfl ?_
      obtain ⟨hi5, hf⟩ := xifn hf
      refine th_aaldM hp2 hk_3 (xin_v hi5) dX2_lowestOff_16 ?_
      refine aw_qstore_n [(2, va_rf (t_R h p2 a1.toNatClampNeg)), (0, va_rf (some t)), (1, .int a1)] dX2_lowestOff_17 rfl (by decide) rfl ?_
      refine aw_qload_n 0 dX2_lowestOff_18 rfl ?_
      refine aw_ifnull 32 dX2_lowestOff_19 (by decide) (fun c6 => ?_) (fun c6 => ?_)
      · rw [if_pos c6] at hf
        refine aw_lv [1, 2] rfl ?_
        exact wkX2_lowestOff_32 hl _ hk2 _ _ _ hf
      · rw [if_neg c6] at hf
        refine aw_qload_n 1 dX2_lowestOff_22 rfl ?_
        refine aw_qload_n 0 dX2_lowestOff_23 rfl ?_
        obtain ⟨q7, hq7, hf⟩ := xbind hf
        refine aw_callV 1 (some t) [va_rf (t_R h p2 a1.toNatClampNeg)] 1 rfl (thC_ob (h := h) hk_1 (by decide)) rfl rfl (ctX2_isOff hl _ _ _ hq7) ⟨wl1 (i := 92) rfl rfl, ciX2_isOff⟩ (wl1 (i := 94) rfl rfl) (wl0 (i := 1) rfl rfl) dX2_lowestOff_24 rfl rfl (Nat.le_of_ble_eq_true rfl) ⟨Nat.le_of_ble_eq_true rfl, Nat.le_of_ble_eq_true rfl⟩ ⟨Nat.le_of_ble_eq_true rfl, Nat.le_of_ble_eq_true rfl⟩ ?_
        refine aw_ifb_eq 32 dX2_lowestOff_27 (by decide) (fun c8 => ?_) (fun c8 => ?_)
        · rw [if_pos c8] at hf
          refine aw_lv [1, 2] rfl ?_
          exact wkX2_lowestOff_32 hl _ hk2 _ _ _ hf
        · rw [if_neg c8] at hf
          refine aw_qload_n 0 dX2_lowestOff_30 rfl ?_
          cases hf
          exact aw_aret "AtariGarden$Match" dX2_lowestOff_31 rfl rfl rfl ⟨Nat.le_of_ble_eq_true rfl, Nat.le_of_ble_eq_true rfl⟩
def fX2_lowestOff (h : TH) (t : Nat) : Option (Option Nat) :=
  fX2_lowestOff_2 FU h t (0 : Int32)
set_option maxHeartbeats 4000000 in
set_option maxRecDepth 100000 in
theorem ctX2_lowestOff {l : Launch} {g : xG} (hl : l.stackTraces = false) {r : Option Nat} (h : TH) (t : Nat) (hf : fX2_lowestOff h t = some r) : CT yX2_lowestOff MX2_lowestOff rmX2_lowestOff l g [va_rf (some t)] (thE g h) (.inl (some (va_rf r))) (thE g h) := by
  rw [fX2_lowestOff] at hf
  refine CT.of (lv0 := [(0, va_rf (some t))]) (by decide +kernel) rfl rfl (by simp [lg_sl, cat_q, cat_i, cat_l, cat_r]) (by simp [lv_args, cat_q, cat_i, cat_l, cat_r]) hl ?_
  refine aw_iconst (0 : Int32) dX2_lowestOff_0 (by decide) ?_
  refine aw_istore_n [(1, .int (0 : Int32)), (0, va_rf (some t))] dX2_lowestOff_1 rfl (by decide) rfl ?_
  refine aw_lv [1, 0] rfl ?_
  exact wkX2_lowestOff_2 hl _ _ _ _ hf
