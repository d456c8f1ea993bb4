abbrev MX9_bits : xM := (RX9, cX9_bits, 5, (some .int), "bits")
abbrev rmX9_bits : Room := { frames := 0, cells := 0, slots := 0, locals := 0 }
theorem ciX9_bits : Cond.code yX9_bits cX9_bits 5 (some .int) ∈ wt ∧ Cond.initialized yX9_bits.cls ∈ wt ∧ (yX9_bits.cls ≠ "java/lang/invoke/MethodHandle" ∧ yX9_bits.cls ≠ "java/lang/invoke/VarHandle" ∧ (parseMethodDescriptor yX9_bits.desc).map (fun d => d.parameters.length) = some 1) := ⟨wl5 (i := 103) rfl rfl, wl1 (i := 4) rfl rfl, by decide +kernel, by decide +kernel, by decide +kernel⟩
def fX9_bits_4 : Nat → Int32 → Int64 → Option (Int32)
  | 0, _, _ => none
  | n + 1, a2, a3 =>
    (if a3 = (0 : Int64) then some a2 else fX9_bits_4 n (a2 + (1 : Int32)) (a3 &&& (a3 - (1 : Int64))))
set_option maxHeartbeats 4000000 in
set_option maxRecDepth 100000 in
theorem wkX9_bits_4 {l : Launch} {g : xG} {x0 : xV} {mo sz : Nat} {S : MS} (hl : l.stackTraces = false) {r : Int32} : ∀ (n : Nat) (a2 : Int32) (a3 : Int64), fX9_bits_4 n a2 a3 = some r → AW MX9_bits rmX9_bits l g x0 (.inl (some (.int r))) (moE g mo sz S) 0 0 (moE g mo sz S) 4 [(2, .int a2), (3, .long a3)] [] := by
  intro n
  induction n with
  | zero => intro a2 a3 hf; exact absurd hf (by simp [fX9_bits_4])
  | succ n hk4 =>
    intro a2 a3 hf
    rw [fX9_bits_4] at hf
    refine aw_lload_n 1 dX9_bits_4 rfl ?_
    refine aw_lconst (0 : Int64) dX9_bits_5 (by decide) ?_
    refine aw_lcmp_eq 22 dX9_bits_6 dX9_bits_7 (by decide) (fun c1 => ?_) (fun c1 => ?_)
    · rw [if_pos c1] at hf
      refine aw_iload_n 0 dX9_bits_22 rfl ?_
      cases hf
      exact aw_iret dX9_bits_23 rfl rfl rfl ⟨Nat.le_of_ble_eq_true rfl, Nat.le_of_ble_eq_true rfl⟩
    · rw [if_neg c1] at hf
      refine aw_iinc [(2, .int (a2 + (1 : Int32))), (3, .long a3)] 0 dX9_bits_10 rfl rfl (by decide) rfl ?_
      refine aw_lload_n 1 dX9_bits_13 rfl ?_
      refine aw_lload_n 1 dX9_bits_14 rfl ?_
      refine aw_lconst (1 : Int64) dX9_bits_15 (by decide) ?_
      refine aw_lsub dX9_bits_16 ?_
      refine aw_land dX9_bits_17 ?_
      refine aw_lstore_n [(3, .long (a3 &&& (a3 - (1 : Int64)))), (2, .int (a2 + (1 : Int32)))] dX9_bits_18 rfl (by decide) rfl ?_
      refine aw_goto 4 dX9_bits_19 (by decide) ?_
      refine aw_lv [1, 0] rfl ?_
      exact hk4 _ _ hf
def fX9_bits (a0 : Int64) : Option (Int32) :=
  fX9_bits_4 FU (0 : Int32) a0
set_option maxHeartbeats 4000000 in
set_option maxRecDepth 100000 in
theorem ctX9_bits {l : Launch} {g : xG} {mo sz : Nat} {S : MS} (hl : l.stackTraces = false) {r : Int32} (a0 : Int64) (hf : fX9_bits a0 = some r) : CT yX9_bits MX9_bits rmX9_bits l g [.long a0] (moE g mo sz S) (.inl (some (.int r))) (moE g mo sz S) := by
  rw [fX9_bits] at hf
  refine CT.of (lv0 := [(0, .long a0)]) (by decide +kernel) rfl rfl (Nat.le_of_ble_eq_true rfl) rfl hl ?_
  refine aw_iconst (0 : Int32) dX9_bits_0 (by decide) ?_
  refine aw_istore_n [(2, .int (0 : Int32)), (0, .long a0)] dX9_bits_1 rfl (by decide) rfl ?_
  refine aw_lload_n 1 dX9_bits_2 rfl ?_
  refine aw_lstore_n [(3, .long a0), (2, .int (0 : Int32)), (0, .long a0)] dX9_bits_3 rfl (by decide) rfl ?_
  refine aw_lv [1, 0] rfl ?_
  exact wkX9_bits_4 hl _ _ _ hf
abbrev MX9_lowest : xM := (RX9, cX9_lowest, 2, (some .int), "lowest")
abbrev rmX9_lowest : Room := { frames := 1, cells := 0, slots := 0, locals := 24 }
theorem ciX9_lowest : Cond.code yX9_lowest cX9_lowest 2 (some .int) ∈ wt ∧ Cond.initialized yX9_lowest.cls ∈ wt ∧ (yX9_lowest.cls ≠ "java/lang/invoke/MethodHandle" ∧ yX9_lowest.cls ≠ "java/lang/invoke/VarHandle" ∧ (parseMethodDescriptor yX9_lowest.desc).map (fun d => d.parameters.length) = some 1) := ⟨wl5 (i := 225) rfl rfl, wl1 (i := 4) rfl rfl, by decide +kernel, by decide +kernel, by decide +kernel⟩
def fX9_lowest (a0 : Int64) : Option (Int32) :=
  (fX9_bits ((a0 &&& (-a0)) - (1 : Int64))).bind fun q1 => some q1
set_option maxHeartbeats 4000000 in
set_option maxRecDepth 100000 in
theorem ctX9_lowest {l : Launch} {g : xG} {mo sz : Nat} {S : MS} (hl : l.stackTraces = false) {r : Int32} (a0 : Int64) (hf : fX9_lowest a0 = some r) : CT yX9_lowest MX9_lowest rmX9_lowest l g [.long a0] (moE g mo sz S) (.inl (some (.int r))) (moE g mo sz S) := by
  rw [fX9_lowest] at hf
  refine CT.of (lv0 := [(0, .long a0)]) (by decide +kernel) rfl rfl (Nat.le_of_ble_eq_true rfl) rfl hl ?_
  refine aw_lload_n 0 dX9_lowest_0 rfl ?_
  refine aw_lload_n 0 dX9_lowest_1 rfl ?_
  refine aw_lneg dX9_lowest_2 ?_
  refine aw_land dX9_lowest_3 ?_
  refine aw_lconst (1 : Int64) dX9_lowest_4 (by decide) ?_
  refine aw_lsub dX9_lowest_5 ?_
  obtain ⟨q1, hq1, hf⟩ := xbind hf
  refine aw_callS [.long ((a0 &&& (-a0)) - (1 : Int64))] 1 (ctX9_bits hl _ hq1) ⟨wl5 (i := 101) rfl rfl, ciX9_bits⟩ (wl5 (i := 102) rfl rfl) dX9_lowest_6 rfl rfl (Nat.le_of_ble_eq_true rfl) ⟨Nat.le_of_ble_eq_true rfl, Nat.le_of_ble_eq_true rfl⟩ ⟨Nat.le_of_ble_eq_true rfl, Nat.le_of_ble_eq_true rfl⟩ ?_
  cases hf
  exact aw_iret dX9_lowest_9 rfl rfl rfl ⟨Nat.le_of_ble_eq_true rfl, Nat.le_of_ble_eq_true rfl⟩
abbrev MX9_bit : xM := (RX9, cX9_bit, 1, (some .long), "bit")
abbrev rmX9_bit : Room := { frames := 0, cells := 0, slots := 0, locals := 0 }
theorem ciX9_bit : Cond.code yX9_bit cX9_bit 1 (some .long) ∈ wt ∧ Cond.initialized yX9_bit.cls ∈ wt ∧ (yX9_bit.cls ≠ "java/lang/invoke/MethodHandle" ∧ yX9_bit.cls ≠ "java/lang/invoke/VarHandle" ∧ (parseMethodDescriptor yX9_bit.desc).map (fun d => d.parameters.length) = some 1) := ⟨wl5 (i := 53) rfl rfl, wl1 (i := 4) rfl rfl, by decide +kernel, by decide +kernel, by decide +kernel⟩
def fX9_bit (a0 : Int32) : Option (Int64) :=
  some (x_shl (1 : Int64) a0)
set_option maxHeartbeats 4000000 in
set_option maxRecDepth 100000 in
theorem ctX9_bit {l : Launch} {g : xG} {mo sz : Nat} {S : MS} (hl : l.stackTraces = false) {r : Int64} (a0 : Int32) (hf : fX9_bit a0 = some r) : CT yX9_bit MX9_bit rmX9_bit l g [.int a0] (moE g mo sz S) (.inl (some (.long r))) (moE g mo sz S) := by
  rw [fX9_bit] at hf
  refine CT.of (lv0 := [(0, .int a0)]) (by decide +kernel) rfl rfl (Nat.le_of_ble_eq_true rfl) rfl hl ?_
  refine aw_lconst (1 : Int64) dX9_bit_0 (by decide) ?_
  refine aw_iload_n 0 dX9_bit_1 rfl ?_
  refine aw_lshl dX9_bit_2 ?_
  cases hf
  exact aw_lret dX9_bit_3 rfl rfl rfl ⟨Nat.le_of_ble_eq_true rfl, Nat.le_of_ble_eq_true rfl⟩
abbrev MX9_around : xM := (RX9, cX9_around, 2, (some .long), "around")
abbrev rmX9_around : Room := { frames := 0, cells := 0, slots := 0, locals := 0 }
theorem ciX9_around : Cond.code yX9_around cX9_around 2 (some .long) ∈ wt ∧ Cond.initialized yX9_around.cls ∈ wt ∧ (yX9_around.cls ≠ "java/lang/invoke/MethodHandle" ∧ yX9_around.cls ≠ "java/lang/invoke/VarHandle" ∧ (parseMethodDescriptor yX9_around.desc).map (fun d => d.parameters.length) = some 1) := ⟨wl5 (i := 93) rfl rfl, wl1 (i := 4) rfl rfl, by decide +kernel, by decide +kernel, by decide +kernel⟩
def fX9_around (a0 : Int64) : Option (Int64) :=
  some (((((x_shl a0 (7 : Int32)) ||| (x_ushr a0 (7 : Int32))) ||| (x_shl (a0 &&& (-283691315109953 : Int64)) (1 : Int32))) ||| (x_ushr (a0 &&& (-4432676798594 : Int64)) (1 : Int32))) &&& (562949953421311 : Int64))
set_option maxHeartbeats 4000000 in
set_option maxRecDepth 100000 in
theorem ctX9_around {l : Launch} {g : xG} {mo sz : Nat} {S : MS} (hl : l.stackTraces = false) {r : Int64} (a0 : Int64) (hf : fX9_around a0 = some r) : CT yX9_around MX9_around rmX9_around l g [.long a0] (moE g mo sz S) (.inl (some (.long r))) (moE g mo sz S) := by
  rw [fX9_around] at hf
  refine CT.of (lv0 := [(0, .long a0)]) (by decide +kernel) rfl rfl (Nat.le_of_ble_eq_true rfl) rfl hl ?_
  refine aw_lload_n 0 dX9_around_0 rfl ?_
  refine aw_bipush (7 : Int32) dX9_around_1 (by decide) ?_
  refine aw_lshl dX9_around_3 ?_
  refine aw_lload_n 0 dX9_around_4 rfl ?_
  refine aw_bipush (7 : Int32) dX9_around_5 (by decide) ?_
  refine aw_lushr dX9_around_7 ?_
  refine aw_lor dX9_around_8 ?_
  refine aw_lload_n 0 dX9_around_9 rfl ?_
  refine aw_ldc2 (-283691315109953 : Int64) rfl (wl5 (i := 94) rfl rfl) dX9_around_10 ?_
  refine aw_land dX9_around_13 ?_
  refine aw_iconst (1 : Int32) dX9_around_14 (by decide) ?_
  refine aw_lshl dX9_around_15 ?_
  refine aw_lor dX9_around_16 ?_
  refine aw_lload_n 0 dX9_around_17 rfl ?_
  refine aw_ldc2 (-4432676798594 : Int64) rfl (wl5 (i := 95) rfl rfl) dX9_around_18 ?_
  refine aw_land dX9_around_21 ?_
  refine aw_iconst (1 : Int32) dX9_around_22 (by decide) ?_
  refine aw_lushr dX9_around_23 ?_
  refine aw_lor dX9_around_24 ?_
  refine aw_ldc2 (562949953421311 : Int64) rfl (wl5 (i := 96) rfl rfl) dX9_around_25 ?_
  refine aw_land dX9_around_28 ?_
  cases hf
  exact aw_lret dX9_around_29 rfl rfl rfl ⟨Nat.le_of_ble_eq_true rfl, Nat.le_of_ble_eq_true rfl⟩
abbrev MX9_flood : xM := (RX9, cX9_flood, 8, (some .long), "flood")
abbrev rmX9_flood : Room := { frames := 1, cells := 0, slots := 0, locals := 21 }
theorem ciX9_flood : Cond.code yX9_flood cX9_flood 8 (some .long) ∈ wt ∧ Cond.initialized yX9_flood.cls ∈ wt ∧ (yX9_flood.cls ≠ "java/lang/invoke/MethodHandle" ∧ yX9_flood.cls ≠ "java/lang/invoke/VarHandle" ∧ (parseMethodDescriptor yX9_flood.desc).map (fun d => d.parameters.length) = some 2) := ⟨wl5 (i := 90) rfl rfl, wl1 (i := 4) rfl rfl, by decide +kernel, by decide +kernel, by decide +kernel⟩
def fX9_flood_8 : Nat → Int64 → Int64 → Int64 → Option (Int64)
  | 0, _, _, _ => none
  | n + 1, a2, a4, a6 =>
    (if a4 = a6 then some a4 else (fX9_around a4).bind fun q2 => fX9_flood_8 n a2 (a4 ||| (q2 &&& a2)) a4)
set_option maxHeartbeats 4000000 in
set_option maxRecDepth 100000 in
theorem wkX9_flood_8 {l : Launch} {g : xG} {x0 : xV} {mo sz : Nat} {S : MS} (hl : l.stackTraces = false) {r : Int64} : ∀ (n : Nat) (a2 : Int64) (a4 : Int64) (a6 : Int64), fX9_flood_8 n a2 a4 a6 = some r → AW MX9_flood rmX9_flood l g x0 (.inl (some (.long r))) (moE g mo sz S) 0 0 (moE g mo sz S) 8 [(2, .long a2), (4, .long a4), (6, .long a6)] [] := by
  intro n
  induction n with
  | zero => intro a2 a4 a6 hf; exact absurd hf (by simp [fX9_flood_8])
  | succ n hk8 =>
    intro a2 a4 a6 hf
    rw [fX9_flood_8] at hf
    refine aw_lload 1 dX9_flood_8 rfl ?_
    refine aw_lload 2 dX9_flood_10 rfl ?_
    refine aw_lcmp_eq 35 dX9_flood_12 dX9_flood_13 (by decide) (fun c1 => ?_) (fun c1 => ?_)
    · rw [if_pos c1] at hf
      refine aw_lload 1 dX9_flood_35 rfl ?_
      cases hf
      exact aw_lret dX9_flood_37 rfl rfl rfl ⟨Nat.le_of_ble_eq_true rfl, Nat.le_of_ble_eq_true rfl⟩
    · rw [if_neg c1] at hf
      refine aw_lload 1 dX9_flood_16 rfl ?_
      refine aw_lstore [(6, .long a4), (2, .long a2), (4, .long a4)] dX9_flood_18 (by decide) rfl ?_
      refine aw_lload 2 dX9_flood_20 rfl ?_
      refine aw_lload 2 dX9_flood_22 rfl ?_
      obtain ⟨q2, hq2, hf⟩ := xbind hf
      refine aw_callS [.long a4] 1 (ctX9_around hl _ hq2) ⟨wl5 (i := 91) rfl rfl, ciX9_around⟩ (wl5 (i := 92) rfl rfl) dX9_flood_24 rfl rfl (Nat.le_of_ble_eq_true rfl) ⟨Nat.le_of_ble_eq_true rfl, Nat.le_of_ble_eq_true rfl⟩ ⟨Nat.le_of_ble_eq_true rfl, Nat.le_of_ble_eq_true rfl⟩ ?_
      refine aw_lload_n 1 dX9_flood_27 rfl ?_
      refine aw_land dX9_flood_28 ?_
      refine aw_lor dX9_flood_29 ?_
      refine aw_lstore [(4, .long (a4 ||| (q2 &&& a2))), (6, .long a4), (2, .long a2)] dX9_flood_30 (by decide) rfl ?_
      refine aw_goto 8 dX9_flood_32 (by decide) ?_
      refine aw_lv [2, 0, 1] rfl ?_
      exact hk8 _ _ _ hf
def fX9_flood (a0 : Int64) (a2 : Int64) : Option (Int64) :=
  fX9_flood_8 FU a2 (a0 &&& a2) (0 : Int64)
set_option maxHeartbeats 4000000 in
set_option maxRecDepth 100000 in
theorem ctX9_flood {l : Launch} {g : xG} {mo sz : Nat} {S : MS} (hl : l.stackTraces = false) {r : Int64} (a0 : Int64) (a2 : Int64) (hf : fX9_flood a0 a2 = some r) : CT yX9_flood MX9_flood rmX9_flood l g [.long a0, .long a2] (moE g mo sz S) (.inl (some (.long r))) (moE g mo sz S) := by
  rw [fX9_flood] at hf
  refine CT.of (lv0 := [(0, .long a0), (2, .long a2)]) (by decide +kernel) rfl rfl (Nat.le_of_ble_eq_true rfl) rfl hl ?_
  refine aw_lload_n 0 dX9_flood_0 rfl ?_
  refine aw_lload_n 1 dX9_flood_1 rfl ?_
  refine aw_land dX9_flood_2 ?_
  refine aw_lstore [(4, .long (a0 &&& a2)), (0, .long a0), (2, .long a2)] dX9_flood_3 (by decide) rfl ?_
  refine aw_lconst (0 : Int64) dX9_flood_5 (by decide) ?_
  refine aw_lstore [(6, .long (0 : Int64)), (4, .long (a0 &&& a2)), (0, .long a0), (2, .long a2)] dX9_flood_6 (by decide) rfl ?_
  refine aw_lv [3, 1, 0] rfl ?_
  exact wkX9_flood_8 hl _ _ _ _ hf
abbrev MX9_free : xM := (RX9, cX9_free, 6, (some .long), "free")
abbrev rmX9_free : Room := { frames := 1, cells := 0, slots := 0, locals := 21 }
theorem ciX9_free : Cond.code yX9_free cX9_free 6 (some .long) ∈ wt ∧ Cond.initialized yX9_free.cls ∈ wt ∧ (yX9_free.cls ≠ "java/lang/invoke/MethodHandle" ∧ yX9_free.cls ≠ "java/lang/invoke/VarHandle" ∧ (parseMethodDescriptor yX9_free.desc).map (fun d => d.parameters.length) = some 3) := ⟨wl5 (i := 100) rfl rfl, wl1 (i := 4) rfl rfl, by decide +kernel, by decide +kernel, by decide +kernel⟩
def fX9_free (a0 : Int64) (a2 : Int64) (a4 : Int64) : Option (Int64) :=
  (fX9_around a0).bind fun q1 => some (q1 &&& ((a2 ||| a4) ^^^ (-1 : Int64)))
set_option maxHeartbeats 4000000 in
set_option maxRecDepth 100000 in
theorem ctX9_free {l : Launch} {g : xG} {mo sz : Nat} {S : MS} (hl : l.stackTraces = false) {r : Int64} (a0 : Int64) (a2 : Int64) (a4 : Int64) (hf : fX9_free a0 a2 a4 = some r) : CT yX9_free MX9_free rmX9_free l g [.long a0, .long a2, .long a4] (moE g mo sz S) (.inl (some (.long r))) (moE g mo sz S) := by
  rw [fX9_free] at hf
  refine CT.of (lv0 := [(0, .long a0), (2, .long a2), (4, .long a4)]) (by decide +kernel) rfl rfl (Nat.le_of_ble_eq_true rfl) rfl hl ?_
  refine aw_lload_n 0 dX9_free_0 rfl ?_
  obtain ⟨q1, hq1, hf⟩ := xbind hf
  refine aw_callS [.long a0] 1 (ctX9_around hl _ hq1) ⟨wl5 (i := 91) rfl rfl, ciX9_around⟩ (wl5 (i := 92) rfl rfl) dX9_free_1 rfl rfl (Nat.le_of_ble_eq_true rfl) ⟨Nat.le_of_ble_eq_true rfl, Nat.le_of_ble_eq_true rfl⟩ ⟨Nat.le_of_ble_eq_true rfl, Nat.le_of_ble_eq_true rfl⟩ ?_
  refine aw_lload_n 1 dX9_free_4 rfl ?_
  refine aw_lload 2 dX9_free_5 rfl ?_
  refine aw_lor dX9_free_7 ?_
  refine aw_ldc2 (-1 : Int64) rfl (wl5 (i := 97) rfl rfl) dX9_free_8 ?_
  refine aw_lxor dX9_free_11 ?_
  refine aw_land dX9_free_12 ?_
  cases hf
  exact aw_lret dX9_free_13 rfl rfl rfl ⟨Nat.le_of_ble_eq_true rfl, Nat.le_of_ble_eq_true rfl⟩
abbrev MX9_dead : xM := (RX9, cX9_dead, 12, (some .long), "dead")
abbrev rmX9_dead : Room := { frames := 2, cells := 0, slots := 0, locals := 48 }
theorem ciX9_dead : Cond.code yX9_dead cX9_dead 12 (some .long) ∈ wt ∧ Cond.initialized yX9_dead.cls ∈ wt ∧ (yX9_dead.cls ≠ "java/lang/invoke/MethodHandle" ∧ yX9_dead.cls ≠ "java/lang/invoke/VarHandle" ∧ (parseMethodDescriptor yX9_dead.desc).map (fun d => d.parameters.length) = some 3) := ⟨wl5 (i := 87) rfl rfl, wl1 (i := 4) rfl rfl, by decide +kernel, by decide +kernel, by decide +kernel⟩
def fX9_dead_57 (k6 : Int64 → Int64 → Int64 → Int64 → Int64 → Option (Int64)) (a0 : Int64) (a2 : Int64) (a4 : Int64) (a6 : Int64) (s0 : Int64) (s1 : Int64) : Option (Int64) :=
  k6 a0 a2 a4 a6 (s0 ||| s1)
set_option maxHeartbeats 4000000 in
set_option maxRecDepth 100000 in
theorem wkX9_dead_57 {l : Launch} {g : xG} {x0 : xV} {mo sz : Nat} {S : MS} (hl : l.stackTraces = false) {r : Int64} (k6 : Int64 → Int64 → Int64 → Int64 → Int64 → Option (Int64)) (hk6 : ∀ (a0 : Int64) (a2 : Int64) (a4 : Int64) (a6 : Int64) (a8 : Int64), k6 a0 a2 a4 a6 a8 = some r → AW MX9_dead rmX9_dead l g x0 (.inl (some (.long r))) (moE g mo sz S) 0 0 (moE g mo sz S) 6 [(0, .long a0), (2, .long a2), (4, .long a4), (6, .long a6), (8, .long a8)] []) (a0 : Int64) (a2 : Int64) (a4 : Int64) (a6 : Int64) (s0 : Int64) (s1 : Int64) (hf : fX9_dead_57 k6 a0 a2 a4 a6 s0 s1 = some r) : AW MX9_dead rmX9_dead l g x0 (.inl (some (.long r))) (moE g mo sz S) 0 0 (moE g mo sz S) 57 [(0, .long a0), (2, .long a2), (4, .long a4), (6, .long a6)] [.long s1, .long s0] := by
  rw [fX9_dead_57] at hf
  refine aw_lor dX9_dead_57 ?_
  refine aw_lstore [(8, .long (s0 ||| s1)), (0, .long a0), (2, .long a2), (4, .long a4), (6, .long a6)] dX9_dead_58 (by decide) rfl ?_
  refine aw_goto 6 dX9_dead_60 (by decide) ?_
  refine aw_lv [1, 2, 3, 4, 0] rfl ?_
  exact hk6 _ _ _ _ _ hf
def fX9_dead_6 : Nat → Int64 → Int64 → Int64 → Int64 → Int64 → Option (Int64)
  | 0, _, _, _, _, _ => none
  | n + 1, a0, a2, a4, a6, a8 =>
    (if a6 = (0 : Int64) then some a8 else (fX9_flood (a6 &&& (-a6)) a0).bind fun q2 => (fX9_free q2 a2 a4).bind fun q3 => (if q3 = (0 : Int64) then fX9_dead_57 (fX9_dead_6 n) a0 a2 a4 (a6 &&& (q2 ^^^ (-1 : Int64))) a8 q2 else fX9_dead_57 (fX9_dead_6 n) a0 a2 a4 (a6 &&& (q2 ^^^ (-1 : Int64))) a8 (0 : Int64)))
set_option maxHeartbeats 4000000 in
set_option maxRecDepth 100000 in
theorem wkX9_dead_6 {l : Launch} {g : xG} {x0 : xV} {mo sz : Nat} {S : MS} (hl : l.stackTraces = false) {r : Int64} : ∀ (n : Nat) (a0 : Int64) (a2 : Int64) (a4 : Int64) (a6 : Int64) (a8 : Int64), fX9_dead_6 n a0 a2 a4 a6 a8 = some r → AW MX9_dead rmX9_dead l g x0 (.inl (some (.long r))) (moE g mo sz S) 0 0 (moE g mo sz S) 6 [(0, .long a0), (2, .long a2), (4, .long a4), (6, .long a6), (8, .long a8)] [] := by
  intro n
  induction n with
  | zero => intro a0 a2 a4 a6 a8 hf; exact absurd hf (by simp [fX9_dead_6])
  | succ n hk6 =>
    intro a0 a2 a4 a6 a8 hf
    rw [fX9_dead_6] at hf
    refine aw_lload 3 dX9_dead_6 rfl ?_
    refine aw_lconst (0 : Int64) dX9_dead_8 (by decide) ?_
    refine aw_lcmp_eq 63 dX9_dead_9 dX9_dead_10 (by decide) (fun c1 => ?_) (fun c1 => ?_)
    · rw [if_pos c1] at hf
      refine aw_lload 4 dX9_dead_63 rfl ?_
      cases hf
      exact aw_lret dX9_dead_65 rfl rfl rfl ⟨Nat.le_of_ble_eq_true rfl, Nat.le_of_ble_eq_true rfl⟩
    · rw [if_neg c1] at hf
      refine aw_lload 3 dX9_dead_13 rfl ?_
      refine aw_lload 3 dX9_dead_15 rfl ?_
      refine aw_lneg dX9_dead_17 ?_
      refine aw_land dX9_dead_18 ?_
      refine aw_lload_n 0 dX9_dead_19 rfl ?_
      obtain ⟨q2, hq2, hf⟩ := xbind hf
      refine aw_callS [.long (a6 &&& (-a6)), .long a0] 2 (ctX9_flood hl _ _ hq2) ⟨wl5 (i := 88) rfl rfl, ciX9_flood⟩ (wl5 (i := 89) rfl rfl) dX9_dead_20 rfl rfl (Nat.le_of_ble_eq_true rfl) ⟨Nat.le_of_ble_eq_true rfl, Nat.le_of_ble_eq_true rfl⟩ ⟨Nat.le_of_ble_eq_true rfl, Nat.le_of_ble_eq_true rfl⟩ ?_
      refine aw_lstore [(10, .long q2), (0, .long a0), (2, .long a2), (4, .long a4), (6, .long a6), (8, .long a8)] dX9_dead_23 (by decide) rfl ?_
      refine aw_lload 4 dX9_dead_25 rfl ?_
      refine aw_lload 0 dX9_dead_27 rfl ?_
      refine aw_ldc2 (-1 : Int64) rfl (wl5 (i := 97) rfl rfl) dX9_dead_29 ?_
      refine aw_lxor dX9_dead_32 ?_
      refine aw_land dX9_dead_33 ?_
      refine aw_lstore [(6, .long (a6 &&& (q2 ^^^ (-1 : Int64)))), (10, .long q2), (0, .long a0), (2, .long a2), (4, .long a4), (8, .long a8)] dX9_dead_34 (by decide) rfl ?_
      refine aw_lload 5 dX9_dead_36 rfl ?_
      refine aw_lload 1 dX9_dead_38 rfl ?_
      refine aw_lload_n 3 dX9_dead_40 rfl ?_
      refine aw_lload 4 dX9_dead_41 rfl ?_
      obtain ⟨q3, hq3, hf⟩ := xbind hf
      refine aw_callS [.long q2, .long a2, .long a4] 3 (ctX9_free hl _ _ _ hq3) ⟨wl5 (i := 98) rfl rfl, ciX9_free⟩ (wl5 (i := 99) rfl rfl) dX9_dead_43 rfl rfl (Nat.le_of_ble_eq_true rfl) ⟨Nat.le_of_ble_eq_true rfl, Nat.le_of_ble_eq_true rfl⟩ ⟨Nat.le_of_ble_eq_true rfl, Nat.le_of_ble_eq_true rfl⟩ ?_
      refine aw_lconst (0 : Int64) dX9_dead_46 (by decide) ?_
      refine aw_lcmp_ne 56 dX9_dead_47 dX9_dead_48 (by decide) (fun c4 => ?_) (fun c4 => ?_)
      · rw [if_neg c4] at hf
        refine aw_lconst (0 : Int64) dX9_dead_56 (by decide) ?_
        refine aw_lv [2, 3, 4, 0] rfl ?_
        exact wkX9_dead_57 hl _ hk6 _ _ _ _ _ _ hf
      · rw [if_pos c4] at hf
        refine aw_lload 1 dX9_dead_51 rfl ?_
        refine aw_goto 57 dX9_dead_53 (by decide) ?_
        refine aw_lv [2, 3, 4, 0] rfl ?_
        exact wkX9_dead_57 hl _ hk6 _ _ _ _ _ _ hf
def fX9_dead (a0 : Int64) (a2 : Int64) (a4 : Int64) : Option (Int64) :=
  fX9_dead_6 FU a0 a2 a4 a0 (0 : Int64)
set_option maxHeartbeats 4000000 in
set_option maxRecDepth 100000 in
theorem ctX9_dead {l : Launch} {g : xG} {mo sz : Nat} {S : MS} (hl : l.stackTraces = false) {r : Int64} (a0 : Int64) (a2 : Int64) (a4 : Int64) (hf : fX9_dead a0 a2 a4 = some r) : CT yX9_dead MX9_dead rmX9_dead l g [.long a0, .long a2, .long a4] (moE g mo sz S) (.inl (some (.long r))) (moE g mo sz S) := by
  rw [fX9_dead] at hf
  refine CT.of (lv0 := [(0, .long a0), (2, .long a2), (4, .long a4)]) (by decide +kernel) rfl rfl (Nat.le_of_ble_eq_true rfl) rfl hl ?_
  refine aw_lload_n 0 dX9_dead_0 rfl ?_
  refine aw_lstore [(6, .long a0), (0, .long a0), (2, .long a2), (4, .long a4)] dX9_dead_1 (by decide) rfl ?_
  refine aw_lconst (0 : Int64) dX9_dead_3 (by decide) ?_
  refine aw_lstore [(8, .long (0 : Int64)), (6, .long a0), (0, .long a0), (2, .long a2), (4, .long a4)] dX9_dead_4 (by decide) rfl ?_
  refine aw_lv [2, 3, 4, 1, 0] rfl ?_
  exact wkX9_dead_6 hl _ _ _ _ _ _ hf
abbrev MX9_puts : xM := (RX9, cX9_puts, 13, none, "puts")
abbrev rmX9_puts : Room := { frames := 3, cells := 0, slots := 0, locals := 79 }
theorem ciX9_puts : Cond.code yX9_puts cX9_puts 13 none ∈ wt ∧ Cond.initialized yX9_puts.cls ∈ wt ∧ (yX9_puts.cls ≠ "java/lang/invoke/MethodHandle" ∧ yX9_puts.cls ≠ "java/lang/invoke/VarHandle" ∧ (parseMethodDescriptor yX9_puts.desc).map (fun d => d.parameters.length) = some 4) := ⟨wl5 (i := 84) rfl rfl, wl1 (i := 4) rfl rfl, by decide +kernel, by decide +kernel, by decide +kernel⟩
def fX9_puts_121 (S : MS) (s1 : Int64) : Option (MS) :=
  some (ms_j S 26 s1)
set_option maxHeartbeats 4000000 in
set_option maxRecDepth 100000 in
theorem wkX9_puts_121 {l : Launch} {g : xG} {x0 : xV} {mo sz : Nat} (hl : l.stackTraces = false) {r : MS} (S : MS) (s1 : Int64) (hf : fX9_puts_121 S s1 = some r) : AW MX9_puts rmX9_puts l g x0 (.inl none) (moE g mo sz r) 0 0 (moE g mo sz S) 121 [] [.long s1, .ref mo] := by
  rw [fX9_puts_121] at hf
  refine mo_putJ 26 rfl (by decide) rfl rfl (wl4 (i := 124) rfl rfl) dX9_puts_121 ?_
  cases hf
  exact aw_vret dX9_puts_124 rfl rfl rfl ⟨Nat.le_of_ble_eq_true rfl, Nat.le_of_ble_eq_true rfl⟩
def fX9_puts_105 (S : MS) (a5 : Int32) (a7 : Int64) (a9 : Int64) (s1 : Int64) : Option (MS) :=
  (if a5 = 0 then fX9_puts_121 (ms_j S 25 s1) a9 else fX9_puts_121 (ms_j S 25 s1) a7)
set_option maxHeartbeats 4000000 in
set_option maxRecDepth 100000 in
theorem wkX9_puts_105 {l : Launch} {g : xG} {x0 : xV} {mo sz : Nat} (hl : l.stackTraces = false) {r : MS} (S : MS) (a5 : Int32) (a7 : Int64) (a9 : Int64) (s1 : Int64) (hf : fX9_puts_105 S a5 a7 a9 s1 = some r) : AW MX9_puts rmX9_puts l g x0 (.inl none) (moE g mo sz r) 0 0 (moE g mo sz S) 105 [(0, .ref mo), (5, .int a5), (7, .long a7), (9, .long a9)] [.long s1, .ref mo] := by
  rw [fX9_puts_105] at hf
  refine mo_putJ 25 rfl (by decide) rfl rfl (wl4 (i := 123) rfl rfl) dX9_puts_105 ?_
  refine aw_aload_n 0 dX9_puts_108 rfl ?_
  refine aw_iload 1 dX9_puts_109 rfl ?_
  refine aw_if_ne 119 dX9_puts_111 (by decide) (fun c1 => ?_) (fun c1 => ?_)
  · rw [if_neg c1] at hf
    refine aw_lload 2 dX9_puts_119 rfl ?_
    refine aw_lv [] rfl ?_
    exact wkX9_puts_121 hl _ _ hf
  · rw [if_pos c1] at hf
    refine aw_lload 3 dX9_puts_114 rfl ?_
    refine aw_goto 121 dX9_puts_116 (by decide) ?_
    refine aw_lv [] rfl ?_
    exact wkX9_puts_121 hl _ _ hf
def fX9_puts_89 (S : MS) (a5 : Int32) (a7 : Int64) (a9 : Int64) (s1 : Int32) : Option (MS) :=
  (xbool s1).bind fun b1 => (if a5 = 0 then fX9_puts_105 (ms_i S 28 (bi b1)) a5 a7 a9 a7 else fX9_puts_105 (ms_i S 28 (bi b1)) a5 a7 a9 a9)
set_option maxHeartbeats 4000000 in
set_option maxRecDepth 100000 in
theorem wkX9_puts_89 {l : Launch} {g : xG} {x0 : xV} {mo sz : Nat} (hl : l.stackTraces = false) {r : MS} (S : MS) (a5 : Int32) (a7 : Int64) (a9 : Int64) (s1 : Int32) (hf : fX9_puts_89 S a5 a7 a9 s1 = some r) : AW MX9_puts rmX9_puts l g x0 (.inl none) (moE g mo sz r) 0 0 (moE g mo sz S) 89 [(0, .ref mo), (5, .int a5), (7, .long a7), (9, .long a9)] [.int s1, .ref mo] := by
  rw [fX9_puts_89] at hf
  obtain ⟨b1, hb1, hf⟩ := xbind hf
  rw [xbool_eq hb1]
  refine mo_putI 28 rfl (by decide) rfl (nar_b _) (fit_b _) rfl (wl4 (i := 126) rfl rfl) dX9_puts_89 ?_
  refine aw_aload_n 0 dX9_puts_92 rfl ?_
  refine aw_iload 1 dX9_puts_93 rfl ?_
  refine aw_if_ne 103 dX9_puts_95 (by decide) (fun c2 => ?_) (fun c2 => ?_)
  · rw [if_neg c2] at hf
    refine aw_lload 3 dX9_puts_103 rfl ?_
    refine aw_lv [0, 1, 2, 3] rfl ?_
    exact wkX9_puts_105 hl _ _ _ _ _ hf
  · rw [if_pos c2] at hf
    refine aw_lload 2 dX9_puts_98 rfl ?_
    refine aw_goto 105 dX9_puts_100 (by decide) ?_
    refine aw_lv [0, 1, 2, 3] rfl ?_
    exact wkX9_puts_105 hl _ _ _ _ _ hf
def fX9_puts_28 (S : MS) (a5 : Int32) (a6 : Int32) (a7 : Int64) (s0 : Int64) : Option (MS) :=
  (fX9_dead s0 a7 s0).bind fun q1 => (fX9_bits q1).bind fun q2 => (fX9_bit a6).bind fun q3 => (fX9_flood q3 a7).bind fun q4 => (fX9_free q4 a7 (s0 &&& (q1 ^^^ (-1 : Int64)))).bind fun q5 => (if q5 = (0 : Int64) then fX9_puts_89 (ms_i S 27 q2) a5 a7 (s0 &&& (q1 ^^^ (-1 : Int64))) (1 : Int32) else fX9_puts_89 (ms_i S 27 q2) a5 a7 (s0 &&& (q1 ^^^ (-1 : Int64))) (0 : Int32))
set_option maxHeartbeats 4000000 in
set_option maxRecDepth 100000 in
theorem wkX9_puts_28 {l : Launch} {g : xG} {x0 : xV} {mo sz : Nat} (hl : l.stackTraces = false) {r : MS} (S : MS) (a5 : Int32) (a6 : Int32) (a7 : Int64) (s0 : Int64) (hf : fX9_puts_28 S a5 a6 a7 s0 = some r) : AW MX9_puts rmX9_puts l g x0 (.inl none) (moE g mo sz r) 0 0 (moE g mo sz S) 28 [(0, .ref mo), (5, .int a5), (6, .int a6), (7, .long a7)] [.long s0] := by
  rw [fX9_puts_28] at hf
  refine aw_lstore [(9, .long s0), (0, .ref mo), (5, .int a5), (6, .int a6), (7, .long a7)] dX9_puts_28 (by decide) rfl ?_
  refine aw_lload 0 dX9_puts_30 rfl ?_
  refine aw_lload 4 dX9_puts_32 rfl ?_
  refine aw_lload 0 dX9_puts_34 rfl ?_
  obtain ⟨q1, hq1, hf⟩ := xbind hf
  refine aw_callS [.long s0, .long a7, .long s0] 3 (ctX9_dead hl _ _ _ hq1) ⟨wl5 (i := 85) rfl rfl, ciX9_dead⟩ (wl5 (i := 86) rfl rfl) dX9_puts_36 rfl rfl (Nat.le_of_ble_eq_true rfl) ⟨Nat.le_of_ble_eq_true rfl, Nat.le_of_ble_eq_true rfl⟩ ⟨Nat.le_of_ble_eq_true rfl, Nat.le_of_ble_eq_true rfl⟩ ?_
  refine aw_lstore [(11, .long q1), (9, .long s0), (0, .ref mo), (5, .int a5), (6, .int a6), (7, .long a7)] dX9_puts_39 (by decide) rfl ?_
  refine aw_lload 1 dX9_puts_41 rfl ?_
  refine aw_lload 0 dX9_puts_43 rfl ?_
  refine aw_ldc2 (-1 : Int64) rfl (wl5 (i := 97) rfl rfl) dX9_puts_45 ?_
  refine aw_lxor dX9_puts_48 ?_
  refine aw_land dX9_puts_49 ?_
  refine aw_lstore [(9, .long (s0 &&& (q1 ^^^ (-1 : Int64)))), (11, .long q1), (0, .ref mo), (5, .int a5), (6, .int a6), (7, .long a7)] dX9_puts_50 (by decide) rfl ?_
  refine aw_aload_n 2 dX9_puts_52 rfl ?_
  refine aw_lload 1 dX9_puts_53 rfl ?_
  obtain ⟨q2, hq2, hf⟩ := xbind hf
  refine aw_callS [.long q1] 1 (ctX9_bits hl _ hq2) ⟨wl5 (i := 101) rfl rfl, ciX9_bits⟩ (wl5 (i := 102) rfl rfl) dX9_puts_55 rfl rfl (Nat.le_of_ble_eq_true rfl) ⟨Nat.le_of_ble_eq_true rfl, Nat.le_of_ble_eq_true rfl⟩ ⟨Nat.le_of_ble_eq_true rfl, Nat.le_of_ble_eq_true rfl⟩ ?_
  refine mo_putI 27 rfl (by decide) rfl rfl rfl rfl (wl4 (i := 125) rfl rfl) dX9_puts_58 ?_
  refine aw_aload_n 2 dX9_puts_61 rfl ?_
  refine aw_iload 4 dX9_puts_62 rfl ?_
  obtain ⟨q3, hq3, hf⟩ := xbind hf
  refine aw_callS [.int a6] 1 (ctX9_bit hl _ hq3) ⟨wl5 (i := 51) rfl rfl, ciX9_bit⟩ (wl5 (i := 52) rfl rfl) dX9_puts_64 rfl rfl (Nat.le_of_ble_eq_true rfl) ⟨Nat.le_of_ble_eq_true rfl, Nat.le_of_ble_eq_true rfl⟩ ⟨Nat.le_of_ble_eq_true rfl, Nat.le_of_ble_eq_true rfl⟩ ?_
  refine aw_lload 5 dX9_puts_67 rfl ?_
  obtain ⟨q4, hq4, hf⟩ := xbind hf
  refine aw_callS [.long q3, .long a7] 2 (ctX9_flood hl _ _ hq4) ⟨wl5 (i := 88) rfl rfl, ciX9_flood⟩ (wl5 (i := 89) rfl rfl) dX9_puts_69 rfl rfl (Nat.le_of_ble_eq_true rfl) ⟨Nat.le_of_ble_eq_true rfl, Nat.le_of_ble_eq_true rfl⟩ ⟨Nat.le_of_ble_eq_true rfl, Nat.le_of_ble_eq_true rfl⟩ ?_
  refine aw_lload 5 dX9_puts_72 rfl ?_
  refine aw_lload 0 dX9_puts_74 rfl ?_
  obtain ⟨q5, hq5, hf⟩ := xbind hf
  refine aw_callS [.long q4, .long a7, .long (s0 &&& (q1 ^^^ (-1 : Int64)))] 3 (ctX9_free hl _ _ _ hq5) ⟨wl5 (i := 98) rfl rfl, ciX9_free⟩ (wl5 (i := 99) rfl rfl) dX9_puts_76 rfl rfl (Nat.le_of_ble_eq_true rfl) ⟨Nat.le_of_ble_eq_true rfl, Nat.le_of_ble_eq_true rfl⟩ ⟨Nat.le_of_ble_eq_true rfl, Nat.le_of_ble_eq_true rfl⟩ ?_
  refine aw_lconst (0 : Int64) dX9_puts_79 (by decide) ?_
  refine aw_lcmp_ne 88 dX9_puts_80 dX9_puts_81 (by decide) (fun c6 => ?_) (fun c6 => ?_)
  · rw [if_neg c6] at hf
    refine aw_iconst (0 : Int32) dX9_puts_88 (by decide) ?_
    refine aw_lv [2, 3, 5, 0] rfl ?_
    exact wkX9_puts_89 hl _ _ _ _ _ hf
  · rw [if_pos c6] at hf
    refine aw_iconst (1 : Int32) dX9_puts_84 (by decide) ?_
    refine aw_goto 89 dX9_puts_85 (by decide) ?_
    refine aw_lv [2, 3, 5, 0] rfl ?_
    exact wkX9_puts_89 hl _ _ _ _ _ hf
def fX9_puts_10 (S : MS) (a1 : Int64) (a3 : Int64) (a5 : Int32) (a6 : Int32) (s0 : Int64) : Option (MS) :=
  (fX9_bit a6).bind fun q1 => (if a5 = 0 then fX9_puts_28 S a5 a6 (s0 ||| q1) a3 else fX9_puts_28 S a5 a6 (s0 ||| q1) a1)
set_option maxHeartbeats 4000000 in
set_option maxRecDepth 100000 in
theorem wkX9_puts_10 {l : Launch} {g : xG} {x0 : xV} {mo sz : Nat} (hl : l.stackTraces = false) {r : MS} (S : MS) (a1 : Int64) (a3 : Int64) (a5 : Int32) (a6 : Int32) (s0 : Int64) (hf : fX9_puts_10 S a1 a3 a5 a6 s0 = some r) : AW MX9_puts rmX9_puts l g x0 (.inl none) (moE g mo sz r) 0 0 (moE g mo sz S) 10 [(0, .ref mo), (1, .long a1), (3, .long a3), (5, .int a5), (6, .int a6)] [.long s0] := by
  rw [fX9_puts_10] at hf
  refine aw_iload 4 dX9_puts_10 rfl ?_
  obtain ⟨q1, hq1, hf⟩ := xbind hf
  refine aw_callS [.int a6] 1 (ctX9_bit hl _ hq1) ⟨wl5 (i := 51) rfl rfl, ciX9_bit⟩ (wl5 (i := 52) rfl rfl) dX9_puts_12 rfl rfl (Nat.le_of_ble_eq_true rfl) ⟨Nat.le_of_ble_eq_true rfl, Nat.le_of_ble_eq_true rfl⟩ ⟨Nat.le_of_ble_eq_true rfl, Nat.le_of_ble_eq_true rfl⟩ ?_
  refine aw_lor dX9_puts_15 ?_
  refine aw_lstore [(7, .long (s0 ||| q1)), (0, .ref mo), (1, .long a1), (3, .long a3), (5, .int a5), (6, .int a6)] dX9_puts_16 (by decide) rfl ?_
  refine aw_iload 4 dX9_puts_18 rfl ?_
  refine aw_if_ne 27 dX9_puts_20 (by decide) (fun c2 => ?_) (fun c2 => ?_)
  · rw [if_neg c2] at hf
    refine aw_lload_n 2 dX9_puts_27 rfl ?_
    refine aw_lv [1, 4, 5, 0] rfl ?_
    exact wkX9_puts_28 hl _ _ _ _ _ hf
  · rw [if_pos c2] at hf
    refine aw_lload_n 3 dX9_puts_23 rfl ?_
    refine aw_goto 28 dX9_puts_24 (by decide) ?_
    refine aw_lv [1, 4, 5, 0] rfl ?_
    exact wkX9_puts_28 hl _ _ _ _ _ hf
def fX9_puts (S : MS) (a1 : Int64) (a3 : Int64) (a5 : Int32) (a6 : Int32) : Option (MS) :=
  (if a5 = 0 then fX9_puts_10 S a1 a3 a5 a6 a1 else fX9_puts_10 S a1 a3 a5 a6 a3)
set_option maxHeartbeats 4000000 in
set_option maxRecDepth 100000 in
theorem ctX9_puts {l : Launch} {g : xG} {mo sz : Nat} (hl : l.stackTraces = false) {r : MS} (S : MS) (a1 : Int64) (a3 : Int64) (a5 : Int32) (a6 : Int32) (hf : fX9_puts S a1 a3 a5 a6 = some r) : CT yX9_puts MX9_puts rmX9_puts l g [.ref mo, .long a1, .long a3, .int a5, .int a6] (moE g mo sz S) (.inl none) (moE g mo sz r) := by
  rw [fX9_puts] at hf
  refine CT.of (lv0 := [(0, .ref mo), (1, .long a1), (3, .long a3), (5, .int a5), (6, .int a6)]) (by decide +kernel) rfl rfl (Nat.le_of_ble_eq_true rfl) rfl hl ?_
  refine aw_iload 3 dX9_puts_0 rfl ?_
  refine aw_if_ne 9 dX9_puts_2 (by decide) (fun c1 => ?_) (fun c1 => ?_)
  · rw [if_neg c1] at hf
    refine aw_lload_n 2 dX9_puts_9 rfl ?_
    refine aw_lv [0, 1, 2, 3, 4] rfl ?_
    exact wkX9_puts_10 hl _ _ _ _ _ _ hf
  · rw [if_pos c1] at hf
    refine aw_lload_n 1 dX9_puts_5 rfl ?_
    refine aw_goto 10 dX9_puts_6 (by decide) ?_
    refine aw_lv [0, 1, 2, 3, 4] rfl ?_
    exact wkX9_puts_10 hl _ _ _ _ _ _ hf
abbrev MX9_allowed : xM := (RX9, cX9_allowed, 13, (some .long), "allowed")
abbrev rmX9_allowed : Room := { frames := 4, cells := 0, slots := 0, locals := 111 }
theorem ciX9_allowed : Cond.code yX9_allowed cX9_allowed 13 (some .long) ∈ wt ∧ Cond.initialized yX9_allowed.cls ∈ wt ∧ (yX9_allowed.cls ≠ "java/lang/invoke/MethodHandle" ∧ yX9_allowed.cls ≠ "java/lang/invoke/VarHandle" ∧ (parseMethodDescriptor yX9_allowed.desc).map (fun d => d.parameters.length) = some 4) := ⟨wl5 (i := 233) rfl rfl, wl1 (i := 4) rfl rfl, by decide +kernel, by decide +kernel, by decide +kernel⟩
def fX9_allowed_49 (k7 : MS → Int64 → Int64 → Int32 → Int64 → Int64 → Option (Int64 × MS)) (S : MS) (a1 : Int64) (a3 : Int64) (a5 : Int32) (a10 : Int64) (s0 : Int64) (s1 : Int64) : Option (Int64 × MS) :=
  k7 S a1 a3 a5 (s0 ||| s1) (a10 &&& (a10 - (1 : Int64)))
set_option maxHeartbeats 4000000 in
set_option maxRecDepth 100000 in
theorem wkX9_allowed_49 {l : Launch} {g : xG} {x0 : xV} {mo sz : Nat} (hl : l.stackTraces = false) {r : Int64 × MS} (k7 : MS → Int64 → Int64 → Int32 → Int64 → Int64 → Option (Int64 × MS)) (hk7 : ∀ (S : MS) (a1 : Int64) (a3 : Int64) (a5 : Int32) (a8 : Int64) (a10 : Int64), k7 S a1 a3 a5 a8 a10 = some r → AW MX9_allowed rmX9_allowed l g x0 (.inl (some (.long r.1))) (moE g mo sz r.2) 0 0 (moE g mo sz S) 7 [(0, .ref mo), (1, .long a1), (3, .long a3), (5, .int a5), (8, .long a8), (10, .long a10)] []) (S : MS) (a1 : Int64) (a3 : Int64) (a5 : Int32) (a10 : Int64) (s0 : Int64) (s1 : Int64) (hf : fX9_allowed_49 k7 S a1 a3 a5 a10 s0 s1 = some r) : AW MX9_allowed rmX9_allowed l g x0 (.inl (some (.long r.1))) (moE g mo sz r.2) 0 0 (moE g mo sz S) 49 [(0, .ref mo), (1, .long a1), (3, .long a3), (5, .int a5), (10, .long a10)] [.long s1, .long s0] := by
  rw [fX9_allowed_49] at hf
  refine aw_lor dX9_allowed_49 ?_
  refine aw_lstore [(8, .long (s0 ||| s1)), (0, .ref mo), (1, .long a1), (3, .long a3), (5, .int a5), (10, .long a10)] dX9_allowed_50 (by decide) rfl ?_
  refine aw_lload 5 dX9_allowed_52 rfl ?_
  refine aw_lload 5 dX9_allowed_54 rfl ?_
  refine aw_lconst (1 : Int64) dX9_allowed_56 (by decide) ?_
  refine aw_lsub dX9_allowed_57 ?_
  refine aw_land dX9_allowed_58 ?_
  refine aw_lstore [(10, .long (a10 &&& (a10 - (1 : Int64)))), (8, .long (s0 ||| s1)), (0, .ref mo), (1, .long a1), (3, .long a3), (5, .int a5)] dX9_allowed_59 (by decide) rfl ?_
  refine aw_goto 7 dX9_allowed_61 (by decide) ?_
  refine aw_lv [2, 3, 4, 5, 1, 0] rfl ?_
  exact hk7 _ _ _ _ _ _ hf
def fX9_allowed_7 : Nat → MS → Int64 → Int64 → Int32 → Int64 → Int64 → Option (Int64 × MS)
  | 0, _, _, _, _, _, _ => none
  | n + 1, S, a1, a3, a5, a8, a10 =>
    (if a10 = (0 : Int64) then some (a8, S) else (fX9_lowest a10).bind fun q2 => (fX9_puts S a1 a3 a5 q2).bind fun q3 => (if (m_i q3 28) = 0 then (fX9_bit q2).bind fun q5 => fX9_allowed_49 (fX9_allowed_7 n) q3 a1 a3 a5 a10 a8 q5 else fX9_allowed_49 (fX9_allowed_7 n) q3 a1 a3 a5 a10 a8 (0 : Int64)))
set_option maxHeartbeats 4000000 in
set_option maxRecDepth 100000 in
theorem wkX9_allowed_7 {l : Launch} {g : xG} {x0 : xV} {mo sz : Nat} (hl : l.stackTraces = false) {r : Int64 × MS} : ∀ (n : Nat) (S : MS) (a1 : Int64) (a3 : Int64) (a5 : Int32) (a8 : Int64) (a10 : Int64), fX9_allowed_7 n S a1 a3 a5 a8 a10 = some r → AW MX9_allowed rmX9_allowed l g x0 (.inl (some (.long r.1))) (moE g mo sz r.2) 0 0 (moE g mo sz S) 7 [(0, .ref mo), (1, .long a1), (3, .long a3), (5, .int a5), (8, .long a8), (10, .long a10)] [] := by
  intro n
  induction n with
  | zero => intro S a1 a3 a5 a8 a10 hf; exact absurd hf (by simp [fX9_allowed_7])
  | succ n hk7 =>
    intro S a1 a3 a5 a8 a10 hf
    rw [fX9_allowed_7] at hf
    refine aw_lload 5 dX9_allowed_7 rfl ?_
    refine aw_lconst (0 : Int64) dX9_allowed_9 (by decide) ?_
    refine aw_lcmp_eq 64 dX9_allowed_10 dX9_allowed_11 (by decide) (fun c1 => ?_) (fun c1 => ?_)
    · rw [if_pos c1] at hf
      refine aw_lload 4 dX9_allowed_64 rfl ?_
      cases hf
      exact aw_lret dX9_allowed_66 rfl rfl rfl ⟨Nat.le_of_ble_eq_true rfl, Nat.le_of_ble_eq_true rfl⟩
    · rw [if_neg c1] at hf
      refine aw_lload 5 dX9_allowed_14 rfl ?_
      obtain ⟨q2, hq2, hf⟩ := xbind hf
      refine aw_callS [.long a10] 1 (ctX9_lowest hl _ hq2) ⟨wl5 (i := 223) rfl rfl, ciX9_lowest⟩ (wl5 (i := 224) rfl rfl) dX9_allowed_16 rfl rfl (Nat.le_of_ble_eq_true rfl) ⟨Nat.le_of_ble_eq_true rfl, Nat.le_of_ble_eq_true rfl⟩ ⟨Nat.le_of_ble_eq_true rfl, Nat.le_of_ble_eq_true rfl⟩ ?_
      refine aw_istore [(12, .int q2), (0, .ref mo), (1, .long a1), (3, .long a3), (5, .int a5), (8, .long a8), (10, .long a10)] dX9_allowed_19 (by decide) rfl ?_
      refine aw_aload_n 1 dX9_allowed_21 rfl ?_
      refine aw_lload_n 2 dX9_allowed_22 rfl ?_
      refine aw_lload_n 3 dX9_allowed_23 rfl ?_
      refine aw_iload 4 dX9_allowed_24 rfl ?_
      refine aw_iload 0 dX9_allowed_26 rfl ?_
      obtain ⟨q3, hq3, hf⟩ := xbind hf
      refine aw_callV 7 (some mo) [.long a1, .long a3, .int a5, .int q2] 4 rfl mo_ob rfl rfl (ctX9_puts hl _ _ _ _ _ hq3) ⟨wl5 (i := 81) rfl rfl, ciX9_puts⟩ (wl5 (i := 83) rfl rfl) (wl0 (i := 30) rfl rfl) dX9_allowed_28 rfl rfl (Nat.le_of_ble_eq_true rfl) ⟨Nat.le_of_ble_eq_true rfl, Nat.le_of_ble_eq_true rfl⟩ ⟨Nat.le_of_ble_eq_true rfl, Nat.le_of_ble_eq_true rfl⟩ ?_
      refine aw_lload 5 dX9_allowed_31 rfl ?_
      refine aw_aload_n 1 dX9_allowed_33 rfl ?_
      refine mo_getI 28 rfl (by decide) (wl4 (i := 126) rfl rfl) dX9_allowed_34 ?_
      refine aw_if_eq 44 dX9_allowed_37 (by decide) (fun c4 => ?_) (fun c4 => ?_)
      · rw [if_pos c4] at hf
        refine aw_iload 0 dX9_allowed_44 rfl ?_
        obtain ⟨q5, hq5, hf⟩ := xbind hf
        refine aw_callS [.int q2] 1 (ctX9_bit hl _ hq5) ⟨wl5 (i := 51) rfl rfl, ciX9_bit⟩ (wl5 (i := 52) rfl rfl) dX9_allowed_46 rfl rfl (Nat.le_of_ble_eq_true rfl) ⟨Nat.le_of_ble_eq_true rfl, Nat.le_of_ble_eq_true rfl⟩ ⟨Nat.le_of_ble_eq_true rfl, Nat.le_of_ble_eq_true rfl⟩ ?_
        refine aw_lv [1, 2, 3, 4, 6] rfl ?_
        exact wkX9_allowed_49 hl _ hk7 _ _ _ _ _ _ _ hf
      · rw [if_neg c4] at hf
        refine aw_lconst (0 : Int64) dX9_allowed_40 (by decide) ?_
        refine aw_goto 49 dX9_allowed_41 (by decide) ?_
        refine aw_lv [1, 2, 3, 4, 6] rfl ?_
        exact wkX9_allowed_49 hl _ hk7 _ _ _ _ _ _ _ hf
def fX9_allowed (S : MS) (a1 : Int64) (a3 : Int64) (a5 : Int32) (a6 : Int64) : Option (Int64 × MS) :=
  fX9_allowed_7 FU S a1 a3 a5 (0 : Int64) a6
set_option maxHeartbeats 4000000 in
set_option maxRecDepth 100000 in
theorem ctX9_allowed {l : Launch} {g : xG} {mo sz : Nat} (hl : l.stackTraces = false) {r : Int64 × MS} (S : MS) (a1 : Int64) (a3 : Int64) (a5 : Int32) (a6 : Int64) (hf : fX9_allowed S a1 a3 a5 a6 = some r) : CT yX9_allowed MX9_allowed rmX9_allowed l g [.ref mo, .long a1, .long a3, .int a5, .long a6] (moE g mo sz S) (.inl (some (.long r.1))) (moE g mo sz r.2) := by
  rw [fX9_allowed] at hf
  refine CT.of (lv0 := [(0, .ref mo), (1, .long a1), (3, .long a3), (5, .int a5), (6, .long a6)]) (by decide +kernel) rfl rfl (Nat.le_of_ble_eq_true rfl) rfl hl ?_
  refine aw_lconst (0 : Int64) dX9_allowed_0 (by decide) ?_
  refine aw_lstore [(8, .long (0 : Int64)), (0, .ref mo), (1, .long a1), (3, .long a3), (5, .int a5), (6, .long a6)] dX9_allowed_1 (by decide) rfl ?_
  refine aw_lload 5 dX9_allowed_3 rfl ?_
  refine aw_lstore [(10, .long a6), (8, .long (0 : Int64)), (0, .ref mo), (1, .long a1), (3, .long a3), (5, .int a5), (6, .long a6)] dX9_allowed_5 (by decide) rfl ?_
  refine aw_lv [2, 3, 4, 5, 1, 0] rfl ?_
  exact wkX9_allowed_7 hl _ _ _ _ _ _ _ hf
abbrev MX9_apart : xM := (RX9, cX9_apart, 3, (some .int), "apart")
abbrev rmX9_apart : Room := { frames := 0, cells := 0, slots := 0, locals := 0 }
theorem ciX9_apart : Cond.code yX9_apart cX9_apart 3 (some .int) ∈ wt ∧ Cond.initialized yX9_apart.cls ∈ wt ∧ (yX9_apart.cls ≠ "java/lang/invoke/MethodHandle" ∧ yX9_apart.cls ≠ "java/lang/invoke/VarHandle" ∧ (parseMethodDescriptor yX9_apart.desc).map (fun d => d.parameters.length) = some 2) := ⟨wl5 (i := 47) rfl rfl, wl1 (i := 4) rfl rfl, by decide +kernel, by decide +kernel, by decide +kernel⟩
def fX9_apart (S : MS) (a1 : Int32) (a2 : Int32) : Option (Int32) :=
  (if xin a1 8 = true then (if xin a2 8 = true then (if (m_I S 1 a2.toNatClampNeg) ≤ (m_I S 1 a1.toNatClampNeg) then some ((m_I S 1 a1.toNatClampNeg) - (m_I S 1 a2.toNatClampNeg)) else some ((m_I S 1 a2.toNatClampNeg) - (m_I S 1 a1.toNatClampNeg))) else none) else none)
set_option maxHeartbeats 4000000 in
set_option maxRecDepth 100000 in
theorem ctX9_apart {l : Launch} {g : xG} {mo sz : Nat} (hl : l.stackTraces = false) {r : Int32} (S : MS) (a1 : Int32) (a2 : Int32) (hf : fX9_apart S a1 a2 = some r) : CT yX9_apart MX9_apart rmX9_apart l g [.ref mo, .int a1, .int a2] (moE g mo sz S) (.inl (some (.int r))) (moE g mo sz S) := by
  rw [fX9_apart] at hf
  refine CT.of (lv0 := [(0, .ref mo), (1, .int a1), (2, .int a2)]) (by decide +kernel) rfl rfl (Nat.le_of_ble_eq_true rfl) rfl hl ?_
  refine aw_aload_n 0 dX9_apart_0 rfl ?_
  refine mo_getR 2 1 rfl (by decide) (wl4 (i := 100) rfl rfl) dX9_apart_1 ?_
  refine aw_iload_n 1 dX9_apart_4 rfl ?_
  obtain ⟨hi1, hf⟩ := xifn hf
  refine mo_iald 1 8 rfl (xin_v hi1) dX9_apart_5 ?_
  refine aw_aload_n 0 dX9_apart_6 rfl ?_
  refine mo_getR 2 1 rfl (by decide) (wl4 (i := 100) rfl rfl) dX9_apart_7 ?_
  refine aw_iload_n 2 dX9_apart_10 rfl ?_
  obtain ⟨hi2, hf⟩ := xifn hf
  refine mo_iald 1 8 rfl (xin_v hi2) dX9_apart_11 ?_
  refine aw_icmp_ge 31 dX9_apart_12 (by decide) (fun c3 => ?_) (fun c3 => ?_)
  · rw [if_pos c3] at hf
    refine aw_aload_n 0 dX9_apart_31 rfl ?_
    refine mo_getR 2 1 rfl (by decide) (wl4 (i := 100) rfl rfl) dX9_apart_32 ?_
    refine aw_iload_n 1 dX9_apart_35 rfl ?_
    refine mo_iald 1 8 rfl (xin_v hi1) dX9_apart_36 ?_
    refine aw_aload_n 0 dX9_apart_37 rfl ?_
    refine mo_getR 2 1 rfl (by decide) (wl4 (i := 100) rfl rfl) dX9_apart_38 ?_
    refine aw_iload_n 2 dX9_apart_41 rfl ?_
    refine mo_iald 1 8 rfl (xin_v hi2) dX9_apart_42 ?_
    refine aw_isub dX9_apart_43 ?_
    cases hf
    exact aw_iret dX9_apart_44 rfl rfl rfl ⟨Nat.le_of_ble_eq_true rfl, Nat.le_of_ble_eq_true rfl⟩
  · rw [if_neg c3] at hf
    refine aw_aload_n 0 dX9_apart_15 rfl ?_
    refine mo_getR 2 1 rfl (by decide) (wl4 (i := 100) rfl rfl) dX9_apart_16 ?_
    refine aw_iload_n 2 dX9_apart_19 rfl ?_
    refine mo_iald 1 8 rfl (xin_v hi2) dX9_apart_20 ?_
    refine aw_aload_n 0 dX9_apart_21 rfl ?_
    refine mo_getR 2 1 rfl (by decide) (wl4 (i := 100) rfl rfl) dX9_apart_22 ?_
    refine aw_iload_n 1 dX9_apart_25 rfl ?_
    refine mo_iald 1 8 rfl (xin_v hi1) dX9_apart_26 ?_
    refine aw_isub dX9_apart_27 ?_
    refine aw_goto 44 dX9_apart_28 (by decide) ?_
    cases hf
    exact aw_iret dX9_apart_44 rfl rfl rfl ⟨Nat.le_of_ble_eq_true rfl, Nat.le_of_ble_eq_true rfl⟩
abbrev MX9_chainAt : xM := (RX9, cX9_chainAt, 5, (some .long), "chainAt")
abbrev rmX9_chainAt : Room := { frames := 2, cells := 0, slots := 0, locals := 48 }
theorem ciX9_chainAt : Cond.code yX9_chainAt cX9_chainAt 5 (some .long) ∈ wt ∧ Cond.initialized yX9_chainAt.cls ∈ wt ∧ (yX9_chainAt.cls ≠ "java/lang/invoke/MethodHandle" ∧ yX9_chainAt.cls ≠ "java/lang/invoke/VarHandle" ∧ (parseMethodDescriptor yX9_chainAt.desc).map (fun d => d.parameters.length) = some 3) := ⟨wl5 (i := 170) rfl rfl, wl1 (i := 4) rfl rfl, by decide +kernel, by decide +kernel, by decide +kernel⟩
def fX9_chainAt_22 (s0 : Int64) (s1 : Int64) : Option (Int64) :=
  (fX9_flood s0 s1).bind fun q1 => some q1
set_option maxHeartbeats 4000000 in
set_option maxRecDepth 100000 in
theorem wkX9_chainAt_22 {l : Launch} {g : xG} {x0 : xV} {mo sz : Nat} {S : MS} (hl : l.stackTraces = false) {r : Int64} (s0 : Int64) (s1 : Int64) (hf : fX9_chainAt_22 s0 s1 = some r) : AW MX9_chainAt rmX9_chainAt l g x0 (.inl (some (.long r))) (moE g mo sz S) 0 0 (moE g mo sz S) 22 [] [.long s1, .long s0] := by
  rw [fX9_chainAt_22] at hf
  obtain ⟨q1, hq1, hf⟩ := xbind hf
  refine aw_callS [.long s0, .long s1] 2 (ctX9_flood hl _ _ hq1) ⟨wl5 (i := 88) rfl rfl, ciX9_flood⟩ (wl5 (i := 89) rfl rfl) dX9_chainAt_22 rfl rfl (Nat.le_of_ble_eq_true rfl) ⟨Nat.le_of_ble_eq_true rfl, Nat.le_of_ble_eq_true rfl⟩ ⟨Nat.le_of_ble_eq_true rfl, Nat.le_of_ble_eq_true rfl⟩ ?_
  cases hf
  exact aw_lret dX9_chainAt_25 rfl rfl rfl ⟨Nat.le_of_ble_eq_true rfl, Nat.le_of_ble_eq_true rfl⟩
def fX9_chainAt (a0 : Int64) (a2 : Int64) (a4 : Int32) : Option (Int64) :=
  (fX9_bit a4).bind fun q1 => (fX9_bit a4).bind fun q2 => (if (a0 &&& q2) = (0 : Int64) then fX9_chainAt_22 q1 a2 else fX9_chainAt_22 q1 a0)
set_option maxHeartbeats 4000000 in
set_option maxRecDepth 100000 in
theorem ctX9_chainAt {l : Launch} {g : xG} {mo sz : Nat} {S : MS} (hl : l.stackTraces = false) {r : Int64} (a0 : Int64) (a2 : Int64) (a4 : Int32) (hf : fX9_chainAt a0 a2 a4 = some r) : CT yX9_chainAt MX9_chainAt rmX9_chainAt l g [.long a0, .long a2, .int a4] (moE g mo sz S) (.inl (some (.long r))) (moE g mo sz S) := by
  rw [fX9_chainAt] at hf
  refine CT.of (lv0 := [(0, .long a0), (2, .long a2), (4, .int a4)]) (by decide +kernel) rfl rfl (Nat.le_of_ble_eq_true rfl) rfl hl ?_
  refine aw_iload 2 dX9_chainAt_0 rfl ?_
  obtain ⟨q1, hq1, hf⟩ := xbind hf
  refine aw_callS [.int a4] 1 (ctX9_bit hl _ hq1) ⟨wl5 (i := 51) rfl rfl, ciX9_bit⟩ (wl5 (i := 52) rfl rfl) dX9_chainAt_2 rfl rfl (Nat.le_of_ble_eq_true rfl) ⟨Nat.le_of_ble_eq_true rfl, Nat.le_of_ble_eq_true rfl⟩ ⟨Nat.le_of_ble_eq_true rfl, Nat.le_of_ble_eq_true rfl⟩ ?_
  refine aw_lload_n 0 dX9_chainAt_5 rfl ?_
  refine aw_iload 2 dX9_chainAt_6 rfl ?_
  obtain ⟨q2, hq2, hf⟩ := xbind hf
  refine aw_callS [.int a4] 1 (ctX9_bit hl _ hq2) ⟨wl5 (i := 51) rfl rfl, ciX9_bit⟩ (wl5 (i := 52) rfl rfl) dX9_chainAt_8 rfl rfl (Nat.le_of_ble_eq_true rfl) ⟨Nat.le_of_ble_eq_true rfl, Nat.le_of_ble_eq_true rfl⟩ ⟨Nat.le_of_ble_eq_true rfl, Nat.le_of_ble_eq_true rfl⟩ ?_
  refine aw_land dX9_chainAt_11 ?_
  refine aw_lconst (0 : Int64) dX9_chainAt_12 (by decide) ?_
  refine aw_lcmp_eq 21 dX9_chainAt_13 dX9_chainAt_14 (by decide) (fun c3 => ?_) (fun c3 => ?_)
  · rw [if_pos c3] at hf
    refine aw_lload_n 1 dX9_chainAt_21 rfl ?_
    refine aw_lv [] rfl ?_
    exact wkX9_chainAt_22 hl _ _ hf
  · rw [if_neg c3] at hf
    refine aw_lload_n 0 dX9_chainAt_17 rfl ?_
    refine aw_goto 22 dX9_chainAt_18 (by decide) ?_
    refine aw_lv [] rfl ?_
    exact wkX9_chainAt_22 hl _ _ hf
abbrev MX9_attacks : xM := (RX9, cX9_attacks, 11, (some .long), "attacks")
abbrev rmX9_attacks : Room := { frames := 3, cells := 0, slots := 0, locals := 72 }
theorem ciX9_attacks : Cond.code yX9_attacks cX9_attacks 11 (some .long) ∈ wt ∧ Cond.initialized yX9_attacks.cls ∈ wt ∧ (yX9_attacks.cls ≠ "java/lang/invoke/MethodHandle" ∧ yX9_attacks.cls ≠ "java/lang/invoke/VarHandle" ∧ (parseMethodDescriptor yX9_attacks.desc).map (fun d => d.parameters.length) = some 4) := ⟨wl5 (i := 222) rfl rfl, wl1 (i := 4) rfl rfl, by decide +kernel, by decide +kernel, by decide +kernel⟩
def fX9_attacks (a1 : Int64) (a3 : Int64) (a5 : Int32) (a6 : Int32) : Option (Int64) :=
  (fX9_chainAt a1 a3 a5).bind fun q1 => (fX9_free q1 a1 a3).bind fun q2 => (fX9_bits q2).bind fun q3 => (if q3 ≤ a6 then (if a6 = (2 : Int32) then some q2 else (fX9_around q2).bind fun q6 => some (q2 ||| (q6 &&& ((a1 ||| a3) ^^^ (-1 : Int64))))) else some (0 : Int64))
set_option maxHeartbeats 4000000 in
set_option maxRecDepth 100000 in
theorem ctX9_attacks {l : Launch} {g : xG} {mo sz : Nat} {S : MS} (hl : l.stackTraces = false) {r : Int64} (a1 : Int64) (a3 : Int64) (a5 : Int32) (a6 : Int32) (hf : fX9_attacks a1 a3 a5 a6 = some r) : CT yX9_attacks MX9_attacks rmX9_attacks l g [.ref mo, .long a1, .long a3, .int a5, .int a6] (moE g mo sz S) (.inl (some (.long r))) (moE g mo sz S) := by
  rw [fX9_attacks] at hf
  refine CT.of (lv0 := [(0, .ref mo), (1, .long a1), (3, .long a3), (5, .int a5), (6, .int a6)]) (by decide +kernel) rfl rfl (Nat.le_of_ble_eq_true rfl) rfl hl ?_
  refine aw_lload_n 1 dX9_attacks_0 rfl ?_
  refine aw_lload_n 2 dX9_attacks_1 rfl ?_
  refine aw_iload 3 dX9_attacks_2 rfl ?_
  obtain ⟨q1, hq1, hf⟩ := xbind hf
  refine aw_callS [.long a1, .long a3, .int a5] 3 (ctX9_chainAt hl _ _ _ hq1) ⟨wl5 (i := 168) rfl rfl, ciX9_chainAt⟩ (wl5 (i := 169) rfl rfl) dX9_attacks_4 rfl rfl (Nat.le_of_ble_eq_true rfl) ⟨Nat.le_of_ble_eq_true rfl, Nat.le_of_ble_eq_true rfl⟩ ⟨Nat.le_of_ble_eq_true rfl, Nat.le_of_ble_eq_true rfl⟩ ?_
  refine aw_lstore [(7, .long q1), (0, .ref mo), (1, .long a1), (3, .long a3), (5, .int a5), (6, .int a6)] dX9_attacks_7 (by decide) rfl ?_
  refine aw_lload 0 dX9_attacks_9 rfl ?_
  refine aw_lload_n 2 dX9_attacks_11 rfl ?_
  refine aw_lload_n 3 dX9_attacks_12 rfl ?_
  obtain ⟨q2, hq2, hf⟩ := xbind hf
  refine aw_callS [.long q1, .long a1, .long a3] 3 (ctX9_free hl _ _ _ hq2) ⟨wl5 (i := 98) rfl rfl, ciX9_free⟩ (wl5 (i := 99) rfl rfl) dX9_attacks_13 rfl rfl (Nat.le_of_ble_eq_true rfl) ⟨Nat.le_of_ble_eq_true rfl, Nat.le_of_ble_eq_true rfl⟩ ⟨Nat.le_of_ble_eq_true rfl, Nat.le_of_ble_eq_true rfl⟩ ?_
  refine aw_lstore [(9, .long q2), (7, .long q1), (0, .ref mo), (1, .long a1), (3, .long a3), (5, .int a5), (6, .int a6)] dX9_attacks_16 (by decide) rfl ?_
  refine aw_lload 0 dX9_attacks_18 rfl ?_
  obtain ⟨q3, hq3, hf⟩ := xbind hf
  refine aw_callS [.long q2] 1 (ctX9_bits hl _ hq3) ⟨wl5 (i := 101) rfl rfl, ciX9_bits⟩ (wl5 (i := 102) rfl rfl) dX9_attacks_20 rfl rfl (Nat.le_of_ble_eq_true rfl) ⟨Nat.le_of_ble_eq_true rfl, Nat.le_of_ble_eq_true rfl⟩ ⟨Nat.le_of_ble_eq_true rfl, Nat.le_of_ble_eq_true rfl⟩ ?_
  refine aw_iload 6 dX9_attacks_23 rfl ?_
  refine aw_icmp_le 30 dX9_attacks_25 (by decide) (fun c4 => ?_) (fun c4 => ?_)
  · rw [if_pos c4] at hf
    refine aw_iload 6 dX9_attacks_30 rfl ?_
    refine aw_iconst (2 : Int32) dX9_attacks_32 (by decide) ?_
    refine aw_icmp_ne 41 dX9_attacks_33 (by decide) (fun c5 => ?_) (fun c5 => ?_)
    · rw [if_neg c5] at hf
      refine aw_lload 0 dX9_attacks_41 rfl ?_
      refine aw_lload 0 dX9_attacks_43 rfl ?_
      obtain ⟨q6, hq6, hf⟩ := xbind hf
      refine aw_callS [.long q2] 1 (ctX9_around hl _ hq6) ⟨wl5 (i := 91) rfl rfl, ciX9_around⟩ (wl5 (i := 92) rfl rfl) dX9_attacks_45 rfl rfl (Nat.le_of_ble_eq_true rfl) ⟨Nat.le_of_ble_eq_true rfl, Nat.le_of_ble_eq_true rfl⟩ ⟨Nat.le_of_ble_eq_true rfl, Nat.le_of_ble_eq_true rfl⟩ ?_
      refine aw_lload_n 3 dX9_attacks_48 rfl ?_
      refine aw_lload_n 4 dX9_attacks_49 rfl ?_
      refine aw_lor dX9_attacks_50 ?_
      refine aw_ldc2 (-1 : Int64) rfl (wl5 (i := 97) rfl rfl) dX9_attacks_51 ?_
      refine aw_lxor dX9_attacks_54 ?_
      refine aw_land dX9_attacks_55 ?_
      refine aw_lor dX9_attacks_56 ?_
      cases hf
      exact aw_lret dX9_attacks_57 rfl rfl rfl ⟨Nat.le_of_ble_eq_true rfl, Nat.le_of_ble_eq_true rfl⟩
    · rw [if_pos c5] at hf
      refine aw_lload 0 dX9_attacks_36 rfl ?_
      refine aw_goto 57 dX9_attacks_38 (by decide) ?_
      cases hf
      exact aw_lret dX9_attacks_57 rfl rfl rfl ⟨Nat.le_of_ble_eq_true rfl, Nat.le_of_ble_eq_true rfl⟩
  · rw [if_neg c4] at hf
    refine aw_lconst (0 : Int64) dX9_attacks_28 (by decide) ?_
    cases hf
    exact aw_lret dX9_attacks_29 rfl rfl rfl ⟨Nat.le_of_ble_eq_true rfl, Nat.le_of_ble_eq_true rfl⟩
abbrev MX9_blackOf : xM := (RX9, cX9_blackOf, 3, (some .int), "blackOf")
abbrev rmX9_blackOf : Room := { frames := 0, cells := 0, slots := 0, locals := 0 }
theorem ciX9_blackOf : Cond.code yX9_blackOf cX9_blackOf 3 (some .int) ∈ wt ∧ Cond.initialized yX9_blackOf.cls ∈ wt ∧ (yX9_blackOf.cls ≠ "java/lang/invoke/MethodHandle" ∧ yX9_blackOf.cls ≠ "java/lang/invoke/VarHandle" ∧ (parseMethodDescriptor yX9_blackOf.desc).map (fun d => d.parameters.length) = some 2) := ⟨wl5 (i := 39) rfl rfl, wl1 (i := 4) rfl rfl, by decide +kernel, by decide +kernel, by decide +kernel⟩
def fX9_blackOf (S : MS) (a1 : Int32) (a2 : Int32) : Option (Int32) :=
  (if xin a2 8 = true then (if xin a1 8 = true then (if (m_I S 1 a1.toNatClampNeg) ≤ (m_I S 1 a2.toNatClampNeg) then some a1 else some a2) else none) else none)
set_option maxHeartbeats 4000000 in
set_option maxRecDepth 100000 in
theorem ctX9_blackOf {l : Launch} {g : xG} {mo sz : Nat} (hl : l.stackTraces = false) {r : Int32} (S : MS) (a1 : Int32) (a2 : Int32) (hf : fX9_blackOf S a1 a2 = some r) : CT yX9_blackOf MX9_blackOf rmX9_blackOf l g [.ref mo, .int a1, .int a2] (moE g mo sz S) (.inl (some (.int r))) (moE g mo sz S) := by
  rw [fX9_blackOf] at hf
  refine CT.of (lv0 := [(0, .ref mo), (1, .int a1), (2, .int a2)]) (by decide +kernel) rfl rfl (Nat.le_of_ble_eq_true rfl) rfl hl ?_
  refine aw_aload_n 0 dX9_blackOf_0 rfl ?_
  refine mo_getR 2 1 rfl (by decide) (wl4 (i := 100) rfl rfl) dX9_blackOf_1 ?_
  refine aw_iload_n 2 dX9_blackOf_4 rfl ?_
  obtain ⟨hi1, hf⟩ := xifn hf
  refine mo_iald 1 8 rfl (xin_v hi1) dX9_blackOf_5 ?_
  refine aw_aload_n 0 dX9_blackOf_6 rfl ?_
  refine mo_getR 2 1 rfl (by decide) (wl4 (i := 100) rfl rfl) dX9_blackOf_7 ?_
  refine aw_iload_n 1 dX9_blackOf_10 rfl ?_
  obtain ⟨hi2, hf⟩ := xifn hf
  refine mo_iald 1 8 rfl (xin_v hi2) dX9_blackOf_11 ?_
  refine aw_icmp_ge 19 dX9_blackOf_12 (by decide) (fun c3 => ?_) (fun c3 => ?_)
  · rw [if_pos c3] at hf
    refine aw_iload_n 1 dX9_blackOf_19 rfl ?_
    cases hf
    exact aw_iret dX9_blackOf_20 rfl rfl rfl ⟨Nat.le_of_ble_eq_true rfl, Nat.le_of_ble_eq_true rfl⟩
  · rw [if_neg c3] at hf
    refine aw_iload_n 2 dX9_blackOf_15 rfl ?_
    refine aw_goto 20 dX9_blackOf_16 (by decide) ?_
    cases hf
    exact aw_iret dX9_blackOf_20 rfl rfl rfl ⟨Nat.le_of_ble_eq_true rfl, Nat.le_of_ble_eq_true rfl⟩
abbrev MX9_isIn : xM := (RX9, cX9_isIn, 3, (some .boolean), "isIn")
abbrev rmX9_isIn : Room := { frames := 0, cells := 0, slots := 0, locals := 0 }
theorem ciX9_isIn : Cond.code yX9_isIn cX9_isIn 3 (some .boolean) ∈ wt ∧ Cond.initialized yX9_isIn.cls ∈ wt ∧ (yX9_isIn.cls ≠ "java/lang/invoke/MethodHandle" ∧ yX9_isIn.cls ≠ "java/lang/invoke/VarHandle" ∧ (parseMethodDescriptor yX9_isIn.desc).map (fun d => d.parameters.length) = some 3) := ⟨wl5 (i := 15) rfl rfl, wl1 (i := 4) rfl rfl, by decide +kernel, by decide +kernel, by decide +kernel⟩
def fX9_isIn (a0 : Int32) (a1 : Int32) (a2 : Int32) : Option (Bool) :=
  (if a0 < a1 then some false else (if a2 < a0 then some false else some true))
set_option maxHeartbeats 4000000 in
set_option maxRecDepth 100000 in
theorem ctX9_isIn {l : Launch} {g : xG} {mo sz : Nat} {S : MS} (hl : l.stackTraces = false) {r : Bool} (a0 : Int32) (a1 : Int32) (a2 : Int32) (hf : fX9_isIn a0 a1 a2 = some r) : CT yX9_isIn MX9_isIn rmX9_isIn l g [.int a0, .int a1, .int a2] (moE g mo sz S) (.inl (some (.int (bi r)))) (moE g mo sz S) := by
  rw [fX9_isIn] at hf
  refine CT.of (lv0 := [(0, .int a0), (1, .int a1), (2, .int a2)]) (by decide +kernel) rfl rfl (Nat.le_of_ble_eq_true rfl) rfl hl ?_
  refine aw_iload_n 0 dX9_isIn_0 rfl ?_
  refine aw_iload_n 1 dX9_isIn_1 rfl ?_
  refine aw_icmp_lt 14 dX9_isIn_2 (by decide) (fun c1 => ?_) (fun c1 => ?_)
  · rw [if_pos c1] at hf
    refine aw_iconst (0 : Int32) dX9_isIn_14 (by decide) ?_
    cases hf
    exact aw_zret dX9_isIn_15 rfl rfl rfl rfl ⟨Nat.le_of_ble_eq_true rfl, Nat.le_of_ble_eq_true rfl⟩
  · rw [if_neg c1] at hf
    refine aw_iload_n 0 dX9_isIn_5 rfl ?_
    refine aw_iload_n 2 dX9_isIn_6 rfl ?_
    refine aw_icmp_gt 14 dX9_isIn_7 (by decide) (fun c2 => ?_) (fun c2 => ?_)
    · rw [if_pos c2] at hf
      refine aw_iconst (0 : Int32) dX9_isIn_14 (by decide) ?_
      cases hf
      exact aw_zret dX9_isIn_15 rfl rfl rfl rfl ⟨Nat.le_of_ble_eq_true rfl, Nat.le_of_ble_eq_true rfl⟩
    · rw [if_neg c2] at hf
      refine aw_iconst (1 : Int32) dX9_isIn_10 (by decide) ?_
      refine aw_goto 15 dX9_isIn_11 (by decide) ?_
      cases hf
      exact aw_zret dX9_isIn_15 rfl rfl rfl rfl ⟨Nat.le_of_ble_eq_true rfl, Nat.le_of_ble_eq_true rfl⟩
abbrev MX9_isNode : xM := (RX9, cX9_isNode, 2, (some .boolean), "isNode")
abbrev rmX9_isNode : Room := { frames := 1, cells := 0, slots := 0, locals := 22 }
theorem ciX9_isNode : Cond.code yX9_isNode cX9_isNode 2 (some .boolean) ∈ wt ∧ Cond.initialized yX9_isNode.cls ∈ wt ∧ (yX9_isNode.cls ≠ "java/lang/invoke/MethodHandle" ∧ yX9_isNode.cls ≠ "java/lang/invoke/VarHandle" ∧ (parseMethodDescriptor yX9_isNode.desc).map (fun d => d.parameters.length) = some 1) := ⟨wl6 (i := 17) rfl rfl, wl1 (i := 4) rfl rfl, by decide +kernel, by decide +kernel, by decide +kernel⟩
def fX9_isNode (S : MS) (a1 : Int32) : Option (Bool) :=
  (fX9_isIn a1 (0 : Int32) ((m_i S 36) - (1 : Int32))).bind fun q1 => some q1
set_option maxHeartbeats 4000000 in
set_option maxRecDepth 100000 in
theorem ctX9_isNode {l : Launch} {g : xG} {mo sz : Nat} (hl : l.stackTraces = false) {r : Bool} (S : MS) (a1 : Int32) (hf : fX9_isNode S a1 = some r) : CT yX9_isNode MX9_isNode rmX9_isNode l g [.ref mo, .int a1] (moE g mo sz S) (.inl (some (.int (bi r)))) (moE g mo sz S) := by
  rw [fX9_isNode] at hf
  refine CT.of (lv0 := [(0, .ref mo), (1, .int a1)]) (by decide +kernel) rfl rfl (Nat.le_of_ble_eq_true rfl) rfl hl ?_
  refine aw_iload_n 1 dX9_isNode_0 rfl ?_
  refine aw_iconst (0 : Int32) dX9_isNode_1 (by decide) ?_
  refine aw_aload_n 0 dX9_isNode_2 rfl ?_
  refine mo_getI 36 rfl (by decide) (wl4 (i := 134) rfl rfl) dX9_isNode_3 ?_
  refine aw_iconst (1 : Int32) dX9_isNode_6 (by decide) ?_
  refine aw_isub dX9_isNode_7 ?_
  obtain ⟨q1, hq1, hf⟩ := xbind hf
  refine aw_callS [.int a1, .int (0 : Int32), .int ((m_i S 36) - (1 : Int32))] 3 (ctX9_isIn hl _ _ _ hq1) ⟨wl5 (i := 13) rfl rfl, ciX9_isIn⟩ (wl5 (i := 14) rfl rfl) dX9_isNode_8 rfl rfl (Nat.le_of_ble_eq_true rfl) ⟨Nat.le_of_ble_eq_true rfl, Nat.le_of_ble_eq_true rfl⟩ ⟨Nat.le_of_ble_eq_true rfl, Nat.le_of_ble_eq_true rfl⟩ ?_
  cases hf
  exact aw_zret dX9_isNode_11 rfl (nar_b _) rfl rfl ⟨Nat.le_of_ble_eq_true rfl, Nat.le_of_ble_eq_true rfl⟩
abbrev MX9_isPoint : xM := (RX9, cX9_isPoint, 1, (some .boolean), "isPoint")
abbrev rmX9_isPoint : Room := { frames := 1, cells := 0, slots := 0, locals := 22 }
theorem ciX9_isPoint : Cond.code yX9_isPoint cX9_isPoint 1 (some .boolean) ∈ wt ∧ Cond.initialized yX9_isPoint.cls ∈ wt ∧ (yX9_isPoint.cls ≠ "java/lang/invoke/MethodHandle" ∧ yX9_isPoint.cls ≠ "java/lang/invoke/VarHandle" ∧ (parseMethodDescriptor yX9_isPoint.desc).map (fun d => d.parameters.length) = some 1) := ⟨wl5 (i := 68) rfl rfl, wl1 (i := 4) rfl rfl, by decide +kernel, by decide +kernel, by decide +kernel⟩
def fX9_isPoint (a0 : Int32) : Option (Bool) :=
  (fX9_isIn a0 (0 : Int32) (48 : Int32)).bind fun q1 => some q1
set_option maxHeartbeats 4000000 in
set_option maxRecDepth 100000 in
theorem ctX9_isPoint {l : Launch} {g : xG} {mo sz : Nat} {S : MS} (hl : l.stackTraces = false) {r : Bool} (a0 : Int32) (hf : fX9_isPoint a0 = some r) : CT yX9_isPoint MX9_isPoint rmX9_isPoint l g [.int a0] (moE g mo sz S) (.inl (some (.int (bi r)))) (moE g mo sz S) := by
  rw [fX9_isPoint] at hf
  refine CT.of (lv0 := [(0, .int a0)]) (by decide +kernel) rfl rfl (Nat.le_of_ble_eq_true rfl) rfl hl ?_
  refine aw_iload_n 0 dX9_isPoint_0 rfl ?_
  refine aw_iconst (0 : Int32) dX9_isPoint_1 (by decide) ?_
  refine aw_bipush (48 : Int32) dX9_isPoint_2 (by decide) ?_
  obtain ⟨q1, hq1, hf⟩ := xbind hf
  refine aw_callS [.int a0, .int (0 : Int32), .int (48 : Int32)] 3 (ctX9_isIn hl _ _ _ hq1) ⟨wl5 (i := 13) rfl rfl, ciX9_isIn⟩ (wl5 (i := 14) rfl rfl) dX9_isPoint_4 rfl rfl (Nat.le_of_ble_eq_true rfl) ⟨Nat.le_of_ble_eq_true rfl, Nat.le_of_ble_eq_true rfl⟩ ⟨Nat.le_of_ble_eq_true rfl, Nat.le_of_ble_eq_true rfl⟩ ?_
  cases hf
  exact aw_zret dX9_isPoint_7 rfl (nar_b _) rfl rfl ⟨Nat.le_of_ble_eq_true rfl, Nat.le_of_ble_eq_true rfl⟩
abbrev MX9_child : xM := (RX9, cX9_child, 5, (some .int), "child")
abbrev rmX9_child : Room := { frames := 0, cells := 0, slots := 0, locals := 0 }
theorem ciX9_child : Cond.code yX9_child cX9_child 5 (some .int) ∈ wt ∧ Cond.initialized yX9_child.cls ∈ wt ∧ (yX9_child.cls ≠ "java/lang/invoke/MethodHandle" ∧ yX9_child.cls ≠ "java/lang/invoke/VarHandle" ∧ (parseMethodDescriptor yX9_child.desc).map (fun d => d.parameters.length) = some 2) := ⟨wl6 (i := 21) rfl rfl, wl1 (i := 4) rfl rfl, by decide +kernel, by decide +kernel, by decide +kernel⟩
def fX9_child_42 (k5 : MS → Int32 → Int32 → Int32 → Int32 → Option (Int32)) (S : MS) (a1 : Int32) (a2 : Int32) (a4 : Int32) (s0 : Int32) : Option (Int32) :=
  k5 S a1 a2 s0 (a4 + (1 : Int32))
set_option maxHeartbeats 4000000 in
set_option maxRecDepth 100000 in
theorem wkX9_child_42 {l : Launch} {g : xG} {x0 : xV} {mo sz : Nat} (hl : l.stackTraces = false) {r : Int32} (k5 : MS → Int32 → Int32 → Int32 → Int32 → Option (Int32)) (hk5 : ∀ (S : MS) (a1 : Int32) (a2 : Int32) (a3 : Int32) (a4 : Int32), k5 S a1 a2 a3 a4 = some r → AW MX9_child rmX9_child l g x0 (.inl (some (.int r))) (moE g mo sz S) 0 0 (moE g mo sz S) 5 [(0, .ref mo), (1, .int a1), (2, .int a2), (3, .int a3), (4, .int a4)] []) (S : MS) (a1 : Int32) (a2 : Int32) (a4 : Int32) (s0 : Int32) (hf : fX9_child_42 k5 S a1 a2 a4 s0 = some r) : AW MX9_child rmX9_child l g x0 (.inl (some (.int r))) (moE g mo sz S) 0 0 (moE g mo sz S) 42 [(0, .ref mo), (1, .int a1), (2, .int a2), (4, .int a4)] [.int s0] := by
  rw [fX9_child_42] at hf
  refine aw_istore_n [(3, .int s0), (0, .ref mo), (1, .int a1), (2, .int a2), (4, .int a4)] dX9_child_42 rfl (by decide) rfl ?_
  refine aw_iinc [(4, .int (a4 + (1 : Int32))), (3, .int s0), (0, .ref mo), (1, .int a1), (2, .int a2)] 4 dX9_child_43 rfl rfl (by decide) rfl ?_
  refine aw_goto 5 dX9_child_46 (by decide) ?_
  refine aw_lv [2, 3, 4, 1, 0] rfl ?_
  exact hk5 _ _ _ _ _ hf
def fX9_child_5 : Nat → MS → Int32 → Int32 → Int32 → Int32 → Option (Int32)
  | 0, _, _, _, _, _ => none
  | n + 1, S, a1, a2, a3, a4 =>
    (if (m_i S 36) ≤ a4 then some a3 else (if xin a4 60 = true then (if (m_I S 28 a4.toNatClampNeg) = a1 then (if (m_I S 30 a4.toNatClampNeg) = a2 then fX9_child_42 (fX9_child_5 n) S a1 a2 a4 a4 else fX9_child_42 (fX9_child_5 n) S a1 a2 a4 a3) else fX9_child_42 (fX9_child_5 n) S a1 a2 a4 a3) else none))
set_option maxHeartbeats 4000000 in
set_option maxRecDepth 100000 in
theorem wkX9_child_5 {l : Launch} {g : xG} {x0 : xV} {mo sz : Nat} (hl : l.stackTraces = false) {r : Int32} : ∀ (n : Nat) (S : MS) (a1 : Int32) (a2 : Int32) (a3 : Int32) (a4 : Int32), fX9_child_5 n S a1 a2 a3 a4 = some r → AW MX9_child rmX9_child l g x0 (.inl (some (.int r))) (moE g mo sz S) 0 0 (moE g mo sz S) 5 [(0, .ref mo), (1, .int a1), (2, .int a2), (3, .int a3), (4, .int a4)] [] := by
  intro n
  induction n with
  | zero => intro S a1 a2 a3 a4 hf; exact absurd hf (by simp [fX9_child_5])
  | succ n hk5 =>
    intro S a1 a2 a3 a4 hf
    rw [fX9_child_5] at hf
    refine aw_iload 4 dX9_child_5 rfl ?_
    refine aw_aload_n 0 dX9_child_7 rfl ?_
    refine mo_getI 36 rfl (by decide) (wl4 (i := 134) rfl rfl) dX9_child_8 ?_
    refine aw_icmp_ge 49 dX9_child_11 (by decide) (fun c1 => ?_) (fun c1 => ?_)
    · rw [if_pos c1] at hf
      refine aw_iload_n 3 dX9_child_49 rfl ?_
      cases hf
      exact aw_iret dX9_child_50 rfl rfl rfl ⟨Nat.le_of_ble_eq_true rfl, Nat.le_of_ble_eq_true rfl⟩
    · rw [if_neg c1] at hf
      refine aw_aload_n 0 dX9_child_14 rfl ?_
      refine mo_getR 37 28 rfl (by decide) (wl4 (i := 135) rfl rfl) dX9_child_15 ?_
      refine aw_iload 4 dX9_child_18 rfl ?_
      obtain ⟨hi2, hf⟩ := xifn hf
      refine mo_iald 28 60 rfl (xin_v hi2) dX9_child_20 ?_
      refine aw_iload_n 1 dX9_child_21 rfl ?_
      refine aw_icmp_ne 41 dX9_child_22 (by decide) (fun c3 => ?_) (fun c3 => ?_)
      · rw [if_neg c3] at hf
        refine aw_iload_n 3 dX9_child_41 rfl ?_
        refine aw_lv [0, 1, 2, 4] rfl ?_
        exact wkX9_child_42 hl _ hk5 _ _ _ _ _ hf
      · rw [if_pos c3] at hf
        refine aw_aload_n 0 dX9_child_25 rfl ?_
        refine mo_getR 39 30 rfl (by decide) (wl4 (i := 137) rfl rfl) dX9_child_26 ?_
        refine aw_iload 4 dX9_child_29 rfl ?_
        refine mo_iald 30 60 rfl (xin_v hi2) dX9_child_31 ?_
        refine aw_iload_n 2 dX9_child_32 rfl ?_
        refine aw_icmp_ne 41 dX9_child_33 (by decide) (fun c4 => ?_) (fun c4 => ?_)
        · rw [if_neg c4] at hf
          refine aw_iload_n 3 dX9_child_41 rfl ?_
          refine aw_lv [0, 1, 2, 4] rfl ?_
          exact wkX9_child_42 hl _ hk5 _ _ _ _ _ hf
        · rw [if_pos c4] at hf
          refine aw_iload 4 dX9_child_36 rfl ?_
          refine aw_goto 42 dX9_child_38 (by decide) ?_
          refine aw_lv [0, 1, 2, 4] rfl ?_
          exact wkX9_child_42 hl _ hk5 _ _ _ _ _ hf
def fX9_child (S : MS) (a1 : Int32) (a2 : Int32) : Option (Int32) :=
  fX9_child_5 FU S a1 a2 (-1 : Int32) (0 : Int32)
set_option maxHeartbeats 4000000 in
set_option maxRecDepth 100000 in
theorem ctX9_child {l : Launch} {g : xG} {mo sz : Nat} (hl : l.stackTraces = false) {r : Int32} (S : MS) (a1 : Int32) (a2 : Int32) (hf : fX9_child S a1 a2 = some r) : CT yX9_child MX9_child rmX9_child l g [.ref mo, .int a1, .int a2] (moE g mo sz S) (.inl (some (.int r))) (moE g mo sz S) := by
  rw [fX9_child] at hf
  refine CT.of (lv0 := [(0, .ref mo), (1, .int a1), (2, .int a2)]) (by decide +kernel) rfl rfl (Nat.le_of_ble_eq_true rfl) rfl hl ?_
  refine aw_iconst (-1 : Int32) dX9_child_0 (by decide) ?_
  refine aw_istore_n [(3, .int (-1 : Int32)), (0, .ref mo), (1, .int a1), (2, .int a2)] dX9_child_1 rfl (by decide) rfl ?_
  refine aw_iconst (0 : Int32) dX9_child_2 (by decide) ?_
  refine aw_istore [(4, .int (0 : Int32)), (3, .int (-1 : Int32)), (0, .ref mo), (1, .int a1), (2, .int a2)] dX9_child_3 (by decide) rfl ?_
  refine aw_lv [2, 3, 4, 1, 0] rfl ?_
  exact wkX9_child_5 hl _ _ _ _ _ _ hf
abbrev MX9_isEmpty : xM := (RX9, cX9_isEmpty, 6, (some .boolean), "isEmpty")
abbrev rmX9_isEmpty : Room := { frames := 1, cells := 0, slots := 0, locals := 20 }
theorem ciX9_isEmpty : Cond.code yX9_isEmpty cX9_isEmpty 6 (some .boolean) ∈ wt ∧ Cond.initialized yX9_isEmpty.cls ∈ wt ∧ (yX9_isEmpty.cls ≠ "java/lang/invoke/MethodHandle" ∧ yX9_isEmpty.cls ≠ "java/lang/invoke/VarHandle" ∧ (parseMethodDescriptor yX9_isEmpty.desc).map (fun d => d.parameters.length) = some 3) := ⟨wl5 (i := 76) rfl rfl, wl1 (i := 4) rfl rfl, by decide +kernel, by decide +kernel, by decide +kernel⟩
def fX9_isEmpty (a1 : Int64) (a3 : Int64) (a5 : Int32) : Option (Bool) :=
  (fX9_bit a5).bind fun q1 => (if ((a1 ||| a3) &&& q1) = (0 : Int64) then some true else some false)
set_option maxHeartbeats 4000000 in
set_option maxRecDepth 100000 in
theorem ctX9_isEmpty {l : Launch} {g : xG} {mo sz : Nat} {S : MS} (hl : l.stackTraces = false) {r : Bool} (a1 : Int64) (a3 : Int64) (a5 : Int32) (hf : fX9_isEmpty a1 a3 a5 = some r) : CT yX9_isEmpty MX9_isEmpty rmX9_isEmpty l g [.ref mo, .long a1, .long a3, .int a5] (moE g mo sz S) (.inl (some (.int (bi r)))) (moE g mo sz S) := by
  rw [fX9_isEmpty] at hf
  refine CT.of (lv0 := [(0, .ref mo), (1, .long a1), (3, .long a3), (5, .int a5)]) (by decide +kernel) rfl rfl (Nat.le_of_ble_eq_true rfl) rfl hl ?_
  refine aw_lload_n 1 dX9_isEmpty_0 rfl ?_
  refine aw_lload_n 2 dX9_isEmpty_1 rfl ?_
  refine aw_lor dX9_isEmpty_2 ?_
  refine aw_iload 3 dX9_isEmpty_3 rfl ?_
  obtain ⟨q1, hq1, hf⟩ := xbind hf
  refine aw_callS [.int a5] 1 (ctX9_bit hl _ hq1) ⟨wl5 (i := 51) rfl rfl, ciX9_bit⟩ (wl5 (i := 52) rfl rfl) dX9_isEmpty_5 rfl rfl (Nat.le_of_ble_eq_true rfl) ⟨Nat.le_of_ble_eq_true rfl, Nat.le_of_ble_eq_true rfl⟩ ⟨Nat.le_of_ble_eq_true rfl, Nat.le_of_ble_eq_true rfl⟩ ?_
  refine aw_land dX9_isEmpty_8 ?_
  refine aw_lconst (0 : Int64) dX9_isEmpty_9 (by decide) ?_
  refine aw_lcmp_ne 18 dX9_isEmpty_10 dX9_isEmpty_11 (by decide) (fun c2 => ?_) (fun c2 => ?_)
  · rw [if_neg c2] at hf
    refine aw_iconst (0 : Int32) dX9_isEmpty_18 (by decide) ?_
    cases hf
    exact aw_zret dX9_isEmpty_19 rfl rfl rfl rfl ⟨Nat.le_of_ble_eq_true rfl, Nat.le_of_ble_eq_true rfl⟩
  · rw [if_pos c2] at hf
    refine aw_iconst (1 : Int32) dX9_isEmpty_14 (by decide) ?_
    refine aw_goto 19 dX9_isEmpty_15 (by decide) ?_
    cases hf
    exact aw_zret dX9_isEmpty_19 rfl rfl rfl rfl ⟨Nat.le_of_ble_eq_true rfl, Nat.le_of_ble_eq_true rfl⟩
abbrev MX9_position : xM := (RX9, cX9_position, 5, (some .int), "position")
abbrev rmX9_position : Room := { frames := 0, cells := 0, slots := 0, locals := 0 }
theorem ciX9_position : Cond.code yX9_position cX9_position 5 (some .int) ∈ wt ∧ Cond.initialized yX9_position.cls ∈ wt ∧ (yX9_position.cls ≠ "java/lang/invoke/MethodHandle" ∧ yX9_position.cls ≠ "java/lang/invoke/VarHandle" ∧ (parseMethodDescriptor yX9_position.desc).map (fun d => d.parameters.length) = some 2) := ⟨wl6 (i := 5) rfl rfl, wl1 (i := 4) rfl rfl, by decide +kernel, by decide +kernel, by decide +kernel⟩
def fX9_position_15 : Nat → MS → Int32 → Int32 → Int32 → Option (Int32)
  | 0, _, _, _, _ => none
  | n + 1, S, a2, a3, a4 =>
    (if a4 ≤ a2 then some a3 else (if xin a3 4096 = true then fX9_position_15 n S a2 (m_I S 20 a3.toNatClampNeg) (a4 + (-1 : Int32)) else none))
set_option maxHeartbeats 4000000 in
set_option maxRecDepth 100000 in
theorem wkX9_position_15 {l : Launch} {g : xG} {x0 : xV} {mo sz : Nat} (hl : l.stackTraces = false) {r : Int32} : ∀ (n : Nat) (S : MS) (a2 : Int32) (a3 : Int32) (a4 : Int32), fX9_position_15 n S a2 a3 a4 = some r → AW MX9_position rmX9_position l g x0 (.inl (some (.int r))) (moE g mo sz S) 0 0 (moE g mo sz S) 15 [(0, .ref mo), (2, .int a2), (3, .int a3), (4, .int a4)] [] := by
  intro n
  induction n with
  | zero => intro S a2 a3 a4 hf; exact absurd hf (by simp [fX9_position_15])
  | succ n hk15 =>
    intro S a2 a3 a4 hf
    rw [fX9_position_15] at hf
    refine aw_iload 3 dX9_position_15 rfl ?_
    refine aw_iload_n 1 dX9_position_17 rfl ?_
    refine aw_icmp_le 34 dX9_position_18 (by decide) (fun c1 => ?_) (fun c1 => ?_)
    · rw [if_pos c1] at hf
      refine aw_iload_n 2 dX9_position_34 rfl ?_
      cases hf
      exact aw_iret dX9_position_35 rfl rfl rfl ⟨Nat.le_of_ble_eq_true rfl, Nat.le_of_ble_eq_true rfl⟩
    · rw [if_neg c1] at hf
      refine aw_aload_n 0 dX9_position_21 rfl ?_
      refine mo_getR 24 20 rfl (by decide) (wl4 (i := 122) rfl rfl) dX9_position_22 ?_
      refine aw_iload_n 2 dX9_position_25 rfl ?_
      obtain ⟨hi2, hf⟩ := xifn hf
      refine mo_iald 20 4096 rfl (xin_v hi2) dX9_position_26 ?_
      refine aw_istore_n [(3, .int (m_I S 20 a3.toNatClampNeg)), (0, .ref mo), (2, .int a2), (4, .int a4)] dX9_position_27 rfl (by decide) rfl ?_
      refine aw_iinc [(4, .int (a4 + (-1 : Int32))), (3, .int (m_I S 20 a3.toNatClampNeg)), (0, .ref mo), (2, .int a2)] 3 dX9_position_28 rfl rfl (by decide) rfl ?_
      refine aw_goto 15 dX9_position_31 (by decide) ?_
      refine aw_lv [2, 3, 1, 0] rfl ?_
      exact hk15 _ _ _ _ hf
def fX9_position (S : MS) (a1 : Int32) (a2 : Int32) : Option (Int32) :=
  (if xin a1 16 = true then fX9_position_15 FU S a2 (m_I S 11 a1.toNatClampNeg) (m_I S 12 a1.toNatClampNeg) else none)
set_option maxHeartbeats 4000000 in
set_option maxRecDepth 100000 in
theorem ctX9_position {l : Launch} {g : xG} {mo sz : Nat} (hl : l.stackTraces = false) {r : Int32} (S : MS) (a1 : Int32) (a2 : Int32) (hf : fX9_position S a1 a2 = some r) : CT yX9_position MX9_position rmX9_position l g [.ref mo, .int a1, .int a2] (moE g mo sz S) (.inl (some (.int r))) (moE g mo sz S) := by
  rw [fX9_position] at hf
  refine CT.of (lv0 := [(0, .ref mo), (1, .int a1), (2, .int a2)]) (by decide +kernel) rfl rfl (Nat.le_of_ble_eq_true rfl) rfl hl ?_
  refine aw_aload_n 0 dX9_position_0 rfl ?_
  refine mo_getR 13 11 rfl (by decide) (wl4 (i := 111) rfl rfl) dX9_position_1 ?_
  refine aw_iload_n 1 dX9_position_4 rfl ?_
  obtain ⟨hi1, hf⟩ := xifn hf
  refine mo_iald 11 16 rfl (xin_v hi1) dX9_position_5 ?_
  refine aw_istore_n [(3, .int (m_I S 11 a1.toNatClampNeg)), (0, .ref mo), (1, .int a1), (2, .int a2)] dX9_position_6 rfl (by decide) rfl ?_
  refine aw_aload_n 1 dX9_position_7 rfl ?_
  refine mo_getR 14 12 rfl (by decide) (wl4 (i := 112) rfl rfl) dX9_position_8 ?_
  refine aw_iload_n 2 dX9_position_11 rfl ?_
  refine mo_iald 12 16 rfl (xin_v hi1) dX9_position_12 ?_
  refine aw_istore [(4, .int (m_I S 12 a1.toNatClampNeg)), (3, .int (m_I S 11 a1.toNatClampNeg)), (0, .ref mo), (1, .int a1), (2, .int a2)] dX9_position_13 (by decide) rfl ?_
  refine aw_lv [2, 4, 1, 0] rfl ?_
  exact wkX9_position_15 hl _ _ _ _ _ hf
