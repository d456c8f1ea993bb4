/-! The law's own methods that touch its rows alone, as functions. -/
def x_shr (a : Int64) (b : Int32) : Int64 := a >>> (b.toInt64 &&& 63)
section LSHR
variable {M : xM} {rm : Room} {l : Launch} {g : xG} {x0 : xV} {o1 : Option Value ⊕ String} {x1 : xV} {kc ks : Nat} {x : xV} {pc : Nat} {lv : List (Nat × Value)} {st : List Value}
theorem aw_lshr {a : Int64} {b : Int32} (hd : decode M.2.1 pc = .ok (.lshr, 1)) (k : AW M rm l g x0 o1 x1 kc ks x (pc + 1) lv (.long (x_shr a b) :: st)) : AW M rm l g x0 o1 x1 kc ks x pc lv (.int b :: .long a :: st) := fun p e s m args below meth c B H locs ls hH hl => lv_lshr B.1 B.2.1 hd rfl (k p e s m args below meth c B H locs ls hH hl)
end LSHR
abbrev ML_around : xM := (RL, cL_around, 6, (some .long), "around")
abbrev rmL_around : Room := { frames := 0, cells := 0, slots := 0, locals := 0 }
theorem ciL_around : Cond.code yL_around cL_around 6 (some .long) ∈ wt ∧ Cond.initialized yL_around.cls ∈ wt ∧ (yL_around.cls ≠ "java/lang/invoke/MethodHandle" ∧ yL_around.cls ≠ "java/lang/invoke/VarHandle" ∧ (parseMethodDescriptor yL_around.desc).map (fun d => d.parameters.length) = some 1) := ⟨wl4 (i := 62) rfl rfl, wl1 (i := 0) rfl rfl, by decide +kernel, by decide +kernel, by decide +kernel⟩
def fL_around (a0 : Int64) : Option (Int64) :=
  some (((((x_shl a0 (7 : Int32)) ||| (x_ushr a0 (7 : Int32))) ||| (x_shl (a0 &&& ((283691315109952 : Int64) ^^^ (-1 : Int64))) (1 : Int32))) ||| (x_ushr (a0 &&& ((4432676798593 : Int64) ^^^ (-1 : Int64))) (1 : Int32))) &&& (562949953421311 : Int64))
set_option maxHeartbeats 4000000 in
set_option maxRecDepth 100000 in
theorem ctL_around {l : Launch} {g : xG} {lo sz : Nat} {L : MS} (hl : l.stackTraces = false) {r : Int64} (a0 : Int64) (hf : fL_around a0 = some r) : CT yL_around ML_around rmL_around l g [.long a0] (laE g lo sz L) (.inl (some (.long r))) (laE g lo sz L) := by
  rw [fL_around] at hf
  refine CT.of (lv0 := [(0, .long a0)]) (by decide +kernel) rfl rfl (Nat.le_of_ble_eq_true rfl) rfl hl ?_
  refine aw_ldc2 (283691315109952 : Int64) rfl (wl4 (i := 63) rfl rfl) dL_around_0 ?_
  refine aw_lstore_n [(2, .long (283691315109952 : Int64)), (0, .long a0)] dL_around_3 rfl (by decide) rfl ?_
  refine aw_ldc2 (4432676798593 : Int64) rfl (wl4 (i := 64) rfl rfl) dL_around_4 ?_
  refine aw_lstore [(4, .long (4432676798593 : Int64)), (2, .long (283691315109952 : Int64)), (0, .long a0)] dL_around_7 (by decide) rfl ?_
  refine aw_lload_n 2 dL_around_9 rfl ?_
  refine aw_bipush (7 : Int32) dL_around_10 (by decide) ?_
  refine aw_lshl dL_around_12 ?_
  refine aw_lload_n 2 dL_around_13 rfl ?_
  refine aw_bipush (7 : Int32) dL_around_14 (by decide) ?_
  refine aw_lushr dL_around_16 ?_
  refine aw_lor dL_around_17 ?_
  refine aw_lload_n 2 dL_around_18 rfl ?_
  refine aw_lload_n 1 dL_around_19 rfl ?_
  refine aw_ldc2 (-1 : Int64) rfl (wl4 (i := 56) rfl rfl) dL_around_20 ?_
  refine aw_lxor dL_around_23 ?_
  refine aw_land dL_around_24 ?_
  refine aw_iconst (1 : Int32) dL_around_25 (by decide) ?_
  refine aw_lshl dL_around_26 ?_
  refine aw_lor dL_around_27 ?_
  refine aw_lload_n 2 dL_around_28 rfl ?_
  refine aw_lload 0 dL_around_29 rfl ?_
  refine aw_ldc2 (-1 : Int64) rfl (wl4 (i := 56) rfl rfl) dL_around_31 ?_
  refine aw_lxor dL_around_34 ?_
  refine aw_land dL_around_35 ?_
  refine aw_iconst (1 : Int32) dL_around_36 (by decide) ?_
  refine aw_lushr dL_around_37 ?_
  refine aw_lor dL_around_38 ?_
  refine aw_ldc2 (562949953421311 : Int64) rfl (wl4 (i := 55) rfl rfl) dL_around_39 ?_
  refine aw_land dL_around_42 ?_
  cases hf
  exact aw_lret dL_around_43 rfl rfl rfl ⟨Nat.le_of_ble_eq_true rfl, Nat.le_of_ble_eq_true rfl⟩
abbrev ML_chain : xM := (RL, cL_chain, 6, (some .long), "chain")
abbrev rmL_chain : Room := { frames := 1, cells := 0, slots := 0, locals := 25 }
theorem ciL_chain : Cond.code yL_chain cL_chain 6 (some .long) ∈ wt ∧ Cond.initialized yL_chain.cls ∈ wt ∧ (yL_chain.cls ≠ "java/lang/invoke/MethodHandle" ∧ yL_chain.cls ≠ "java/lang/invoke/VarHandle" ∧ (parseMethodDescriptor yL_chain.desc).map (fun d => d.parameters.length) = some 2) := ⟨wl4 (i := 59) rfl rfl, wl1 (i := 0) rfl rfl, by decide +kernel, by decide +kernel, by decide +kernel⟩
def fL_chain_9 : Nat → Int64 → Int64 → Int32 → Option (Int64)
  | 0, _, _, _ => none
  | n + 1, a0, a3, a5 =>
    (if (49 : Int32) ≤ a5 then some a3 else (fL_around a3).bind fun q2 => fL_chain_9 n a0 (a3 ||| (q2 &&& a0)) (a5 + (1 : Int32)))
set_option maxHeartbeats 4000000 in
set_option maxRecDepth 100000 in
theorem wkL_chain_9 {l : Launch} {g : xG} {x0 : xV} {lo sz : Nat} {L : MS} (hl : l.stackTraces = false) {r : Int64} : ∀ (n : Nat) (a0 : Int64) (a3 : Int64) (a5 : Int32), fL_chain_9 n a0 a3 a5 = some r → AW ML_chain rmL_chain l g x0 (.inl (some (.long r))) (laE g lo sz L) 0 0 (laE g lo sz L) 9 [(0, .long a0), (3, .long a3), (5, .int a5)] [] := by
  intro n
  induction n with
  | zero => intro a0 a3 a5 hf; exact absurd hf (by simp [fL_chain_9])
  | succ n hk9 =>
    intro a0 a3 a5 hf
    rw [fL_chain_9] at hf
    refine aw_iload 2 dL_chain_9 rfl ?_
    refine aw_bipush (49 : Int32) dL_chain_11 (by decide) ?_
    refine aw_icmp_ge 31 dL_chain_13 (by decide) (fun c1 => ?_) (fun c1 => ?_)
    · rw [if_pos c1] at hf
      refine aw_lload_n 1 dL_chain_31 rfl ?_
      cases hf
      exact aw_lret dL_chain_32 rfl rfl rfl ⟨Nat.le_of_ble_eq_true rfl, Nat.le_of_ble_eq_true rfl⟩
    · rw [if_neg c1] at hf
      refine aw_lload_n 1 dL_chain_16 rfl ?_
      refine aw_lload_n 1 dL_chain_17 rfl ?_
      obtain ⟨q2, hq2, hf⟩ := xbind hf
      refine aw_callS [.long a3] 1 (ctL_around hl _ hq2) ⟨wl4 (i := 60) rfl rfl, ciL_around⟩ (wl4 (i := 61) rfl rfl) dL_chain_18 rfl rfl (Nat.le_of_ble_eq_true rfl) ⟨Nat.le_of_ble_eq_true rfl, Nat.le_of_ble_eq_true rfl⟩ ⟨Nat.le_of_ble_eq_true rfl, Nat.le_of_ble_eq_true rfl⟩ ?_
      refine aw_lload_n 0 dL_chain_21 rfl ?_
      refine aw_land dL_chain_22 ?_
      refine aw_lor dL_chain_23 ?_
      refine aw_lstore_n [(3, .long (a3 ||| (q2 &&& a0))), (0, .long a0), (5, .int a5)] dL_chain_24 rfl (by decide) rfl ?_
      refine aw_iinc [(5, .int (a5 + (1 : Int32))), (3, .long (a3 ||| (q2 &&& a0))), (0, .long a0)] 2 dL_chain_25 rfl rfl (by decide) rfl ?_
      refine aw_goto 9 dL_chain_28 (by decide) ?_
      refine aw_lv [2, 1, 0] rfl ?_
      exact hk9 _ _ _ hf
def fL_chain (a0 : Int64) (a2 : Int32) : Option (Int64) :=
  fL_chain_9 FU a0 (a0 &&& (x_shl (1 : Int64) a2)) (0 : Int32)
set_option maxHeartbeats 4000000 in
set_option maxRecDepth 100000 in
theorem ctL_chain {l : Launch} {g : xG} {lo sz : Nat} {L : MS} (hl : l.stackTraces = false) {r : Int64} (a0 : Int64) (a2 : Int32) (hf : fL_chain a0 a2 = some r) : CT yL_chain ML_chain rmL_chain l g [.long a0, .int a2] (laE g lo sz L) (.inl (some (.long r))) (laE g lo sz L) := by
  rw [fL_chain] at hf
  refine CT.of (lv0 := [(0, .long a0), (2, .int a2)]) (by decide +kernel) rfl rfl (Nat.le_of_ble_eq_true rfl) rfl hl ?_
  refine aw_lload_n 0 dL_chain_0 rfl ?_
  refine aw_lconst (1 : Int64) dL_chain_1 (by decide) ?_
  refine aw_iload_n 1 dL_chain_2 rfl ?_
  refine aw_lshl dL_chain_3 ?_
  refine aw_land dL_chain_4 ?_
  refine aw_lstore_n [(3, .long (a0 &&& (x_shl (1 : Int64) a2))), (0, .long a0), (2, .int a2)] dL_chain_5 rfl (by decide) rfl ?_
  refine aw_iconst (0 : Int32) dL_chain_6 (by decide) ?_
  refine aw_istore [(5, .int (0 : Int32)), (3, .long (a0 &&& (x_shl (1 : Int64) a2))), (0, .long a0), (2, .int a2)] dL_chain_7 (by decide) rfl ?_
  refine aw_lv [2, 1, 0] rfl ?_
  exact wkL_chain_9 hl _ _ _ _ hf
abbrev ML_bits : xM := (RL, cL_bits, 4, (some .int), "bits")
abbrev rmL_bits : Room := { frames := 0, cells := 0, slots := 0, locals := 0 }
theorem ciL_bits : Cond.code yL_bits cL_bits 4 (some .int) ∈ wt ∧ Cond.initialized yL_bits.cls ∈ wt ∧ (yL_bits.cls ≠ "java/lang/invoke/MethodHandle" ∧ yL_bits.cls ≠ "java/lang/invoke/VarHandle" ∧ (parseMethodDescriptor yL_bits.desc).map (fun d => d.parameters.length) = some 1) := ⟨wl4 (i := 54) rfl rfl, wl1 (i := 0) rfl rfl, by decide +kernel, by decide +kernel, by decide +kernel⟩
def fL_bits_26 (k4 : Int64 → Int32 → Int32 → Option (Int32)) (a0 : Int64) (a3 : Int32) (s0 : Int32) (s1 : Int32) : Option (Int32) :=
  k4 a0 (s0 + s1) (a3 + (1 : Int32))
set_option maxHeartbeats 4000000 in
set_option maxRecDepth 100000 in
theorem wkL_bits_26 {l : Launch} {g : xG} {x0 : xV} {lo sz : Nat} {L : MS} (hl : l.stackTraces = false) {r : Int32} (k4 : Int64 → Int32 → Int32 → Option (Int32)) (hk4 : ∀ (a0 : Int64) (a2 : Int32) (a3 : Int32), k4 a0 a2 a3 = some r → AW ML_bits rmL_bits l g x0 (.inl (some (.int r))) (laE g lo sz L) 0 0 (laE g lo sz L) 4 [(0, .long a0), (2, .int a2), (3, .int a3)] []) (a0 : Int64) (a3 : Int32) (s0 : Int32) (s1 : Int32) (hf : fL_bits_26 k4 a0 a3 s0 s1 = some r) : AW ML_bits rmL_bits l g x0 (.inl (some (.int r))) (laE g lo sz L) 0 0 (laE g lo sz L) 26 [(0, .long a0), (3, .int a3)] [.int s1, .int s0] := by
  rw [fL_bits_26] at hf
  refine aw_iadd dL_bits_26 ?_
  refine aw_istore_n [(2, .int (s0 + s1)), (0, .long a0), (3, .int a3)] dL_bits_27 rfl (by decide) rfl ?_
  refine aw_iinc [(3, .int (a3 + (1 : Int32))), (2, .int (s0 + s1)), (0, .long a0)] 2 dL_bits_28 rfl rfl (by decide) rfl ?_
  refine aw_goto 4 dL_bits_31 (by decide) ?_
  refine aw_lv [2, 1, 0] rfl ?_
  exact hk4 _ _ _ hf
def fL_bits_4 : Nat → Int64 → Int32 → Int32 → Option (Int32)
  | 0, _, _, _ => none
  | n + 1, a0, a2, a3 =>
    (if (49 : Int32) ≤ a3 then some a2 else (if ((x_shr a0 a3) &&& (1 : Int64)) = (1 : Int64) then fL_bits_26 (fL_bits_4 n) a0 a3 a2 (1 : Int32) else fL_bits_26 (fL_bits_4 n) a0 a3 a2 (0 : Int32)))
set_option maxHeartbeats 4000000 in
set_option maxRecDepth 100000 in
theorem wkL_bits_4 {l : Launch} {g : xG} {x0 : xV} {lo sz : Nat} {L : MS} (hl : l.stackTraces = false) {r : Int32} : ∀ (n : Nat) (a0 : Int64) (a2 : Int32) (a3 : Int32), fL_bits_4 n a0 a2 a3 = some r → AW ML_bits rmL_bits l g x0 (.inl (some (.int r))) (laE g lo sz L) 0 0 (laE g lo sz L) 4 [(0, .long a0), (2, .int a2), (3, .int a3)] [] := by
  intro n
  induction n with
  | zero => intro a0 a2 a3 hf; exact absurd hf (by simp [fL_bits_4])
  | succ n hk4 =>
    intro a0 a2 a3 hf
    rw [fL_bits_4] at hf
    refine aw_iload_n 2 dL_bits_4 rfl ?_
    refine aw_bipush (49 : Int32) dL_bits_5 (by decide) ?_
    refine aw_icmp_ge 34 dL_bits_7 (by decide) (fun c1 => ?_) (fun c1 => ?_)
    · rw [if_pos c1] at hf
      refine aw_iload_n 1 dL_bits_34 rfl ?_
      cases hf
      exact aw_iret dL_bits_35 rfl rfl rfl ⟨Nat.le_of_ble_eq_true rfl, Nat.le_of_ble_eq_true rfl⟩
    · rw [if_neg c1] at hf
      refine aw_iload_n 1 dL_bits_10 rfl ?_
      refine aw_lload_n 0 dL_bits_11 rfl ?_
      refine aw_iload_n 2 dL_bits_12 rfl ?_
      refine aw_lshr dL_bits_13 ?_
      refine aw_lconst (1 : Int64) dL_bits_14 (by decide) ?_
      refine aw_land dL_bits_15 ?_
      refine aw_lconst (1 : Int64) dL_bits_16 (by decide) ?_
      refine aw_lcmp_ne 25 dL_bits_17 dL_bits_18 (by decide) (fun c2 => ?_) (fun c2 => ?_)
      · rw [if_neg c2] at hf
        refine aw_iconst (0 : Int32) dL_bits_25 (by decide) ?_
        refine aw_lv [0, 2] rfl ?_
        exact wkL_bits_26 hl _ hk4 _ _ _ _ hf
      · rw [if_pos c2] at hf
        refine aw_iconst (1 : Int32) dL_bits_21 (by decide) ?_
        refine aw_goto 26 dL_bits_22 (by decide) ?_
        refine aw_lv [0, 2] rfl ?_
        exact wkL_bits_26 hl _ hk4 _ _ _ _ hf
def fL_bits (a0 : Int64) : Option (Int32) :=
  fL_bits_4 FU a0 (0 : Int32) (0 : Int32)
set_option maxHeartbeats 4000000 in
set_option maxRecDepth 100000 in
theorem ctL_bits {l : Launch} {g : xG} {lo sz : Nat} {L : MS} (hl : l.stackTraces = false) {r : Int32} (a0 : Int64) (hf : fL_bits a0 = some r) : CT yL_bits ML_bits rmL_bits l g [.long a0] (laE g lo sz L) (.inl (some (.int r))) (laE g lo sz L) := by
  rw [fL_bits] at hf
  refine CT.of (lv0 := [(0, .long a0)]) (by decide +kernel) rfl rfl (Nat.le_of_ble_eq_true rfl) rfl hl ?_
  refine aw_iconst (0 : Int32) dL_bits_0 (by decide) ?_
  refine aw_istore_n [(2, .int (0 : Int32)), (0, .long a0)] dL_bits_1 rfl (by decide) rfl ?_
  refine aw_iconst (0 : Int32) dL_bits_2 (by decide) ?_
  refine aw_istore_n [(3, .int (0 : Int32)), (2, .int (0 : Int32)), (0, .long a0)] dL_bits_3 rfl (by decide) rfl ?_
  refine aw_lv [2, 1, 0] rfl ?_
  exact wkL_bits_4 hl _ _ _ _ hf
abbrev ML_puts : xM := (RL, cL_puts, 16, (some .int), "puts")
abbrev rmL_puts : Room := { frames := 2, cells := 0, slots := 0, locals := 50 }
theorem ciL_puts : Cond.code yL_puts cL_puts 16 (some .int) ∈ wt ∧ Cond.initialized yL_puts.cls ∈ wt ∧ (yL_puts.cls ≠ "java/lang/invoke/MethodHandle" ∧ yL_puts.cls ≠ "java/lang/invoke/VarHandle" ∧ (parseMethodDescriptor yL_puts.desc).map (fun d => d.parameters.length) = some 5) := ⟨wl4 (i := 89) rfl rfl, wl1 (i := 0) rfl rfl, by decide +kernel, by decide +kernel, by decide +kernel⟩
def fL_puts_154 (L : MS) (a5 : Int32) (a7 : Int64) (a9 : Int64) (a11 : Int64) (s1 : Int32) (s2 : Int64) : Option (Int32 × MS) :=
  (if xin s1 2 = true then (fL_chain a7 a5).bind fun q2 => (fL_around q2).bind fun q3 => (if (q3 &&& ((a7 ||| a9) ^^^ (-1 : Int64))) = (0 : Int64) then some ((-1 : Int32), (ms_J L 10 s1.toNatClampNeg s2)) else (fL_bits a11).bind fun q5 => some (q5, (ms_J L 10 s1.toNatClampNeg s2))) else none)
set_option maxHeartbeats 4000000 in
set_option maxRecDepth 100000 in
theorem wkL_puts_154 {l : Launch} {g : xG} {x0 : xV} {lo sz : Nat} (hl : l.stackTraces = false) {r : Int32 × MS} (L : MS) (a5 : Int32) (a7 : Int64) (a9 : Int64) (a11 : Int64) (s1 : Int32) (s2 : Int64) (hf : fL_puts_154 L a5 a7 a9 a11 s1 s2 = some r) : AW ML_puts rmL_puts l g x0 (.inl (some (.int r.1))) (laE g lo sz r.2) 0 0 (laE g lo sz L) 154 [(5, .int a5), (7, .long a7), (9, .long a9), (11, .long a11)] [.long s2, .int s1, .ref (lo + 10)] := by
  rw [fL_puts_154] at hf
  obtain ⟨hi1, hf⟩ := xifn hf
  refine la_last 10 2 rfl (xin_v hi1) dL_puts_154 ?_
  refine aw_lload 1 dL_puts_155 rfl ?_
  refine aw_iload 0 dL_puts_157 rfl ?_
  obtain ⟨q2, hq2, hf⟩ := xbind hf
  refine aw_callS [.long a7, .int a5] 2 (ctL_chain hl _ _ hq2) ⟨wl4 (i := 57) rfl rfl, ciL_chain⟩ (wl4 (i := 58) rfl rfl) dL_puts_159 rfl rfl (Nat.le_of_ble_eq_true rfl) ⟨Nat.le_of_ble_eq_true rfl, Nat.le_of_ble_eq_true rfl⟩ ⟨Nat.le_of_ble_eq_true rfl, Nat.le_of_ble_eq_true rfl⟩ ?_
  obtain ⟨q3, hq3, hf⟩ := xbind hf
  refine aw_callS [.long q2] 1 (ctL_around hl _ hq3) ⟨wl4 (i := 60) rfl rfl, ciL_around⟩ (wl4 (i := 61) rfl rfl) dL_puts_162 rfl rfl (Nat.le_of_ble_eq_true rfl) ⟨Nat.le_of_ble_eq_true rfl, Nat.le_of_ble_eq_true rfl⟩ ⟨Nat.le_of_ble_eq_true rfl, Nat.le_of_ble_eq_true rfl⟩ ?_
  refine aw_lload 1 dL_puts_165 rfl ?_
  refine aw_lload 2 dL_puts_167 rfl ?_
  refine aw_lor dL_puts_169 ?_
  refine aw_ldc2 (-1 : Int64) rfl (wl4 (i := 56) rfl rfl) dL_puts_170 ?_
  refine aw_lxor dL_puts_173 ?_
  refine aw_land dL_puts_174 ?_
  refine aw_lconst (0 : Int64) dL_puts_175 (by decide) ?_
  refine aw_lcmp_ne 184 dL_puts_176 dL_puts_177 (by decide) (fun c4 => ?_) (fun c4 => ?_)
  · rw [if_neg c4] at hf
    refine aw_lload 3 dL_puts_184 rfl ?_
    obtain ⟨q5, hq5, hf⟩ := xbind hf
    refine aw_callS [.long a11] 1 (ctL_bits hl _ hq5) ⟨wl4 (i := 52) rfl rfl, ciL_bits⟩ (wl4 (i := 53) rfl rfl) dL_puts_186 rfl rfl (Nat.le_of_ble_eq_true rfl) ⟨Nat.le_of_ble_eq_true rfl, Nat.le_of_ble_eq_true rfl⟩ ⟨Nat.le_of_ble_eq_true rfl, Nat.le_of_ble_eq_true rfl⟩ ?_
    cases hf
    exact aw_iret dL_puts_189 rfl rfl rfl ⟨Nat.le_of_ble_eq_true rfl, Nat.le_of_ble_eq_true rfl⟩
  · rw [if_pos c4] at hf
    refine aw_iconst (-1 : Int32) dL_puts_180 (by decide) ?_
    refine aw_goto 189 dL_puts_181 (by decide) ?_
    cases hf
    exact aw_iret dL_puts_189 rfl rfl rfl ⟨Nat.le_of_ble_eq_true rfl, Nat.le_of_ble_eq_true rfl⟩
def fL_puts_138 (L : MS) (a4 : Int32) (a5 : Int32) (a7 : Int64) (a9 : Int64) (a11 : Int64) (s1 : Int32) (s2 : Int64) : Option (Int32 × MS) :=
  (if xin s1 2 = true then (if a4 = 0 then fL_puts_154 (ms_J L 10 s1.toNatClampNeg s2) a5 a7 a9 a11 (1 : Int32) a9 else fL_puts_154 (ms_J L 10 s1.toNatClampNeg s2) a5 a7 a9 a11 (1 : Int32) a7) else none)
set_option maxHeartbeats 4000000 in
set_option maxRecDepth 100000 in
theorem wkL_puts_138 {l : Launch} {g : xG} {x0 : xV} {lo sz : Nat} (hl : l.stackTraces = false) {r : Int32 × MS} (L : MS) (a4 : Int32) (a5 : Int32) (a7 : Int64) (a9 : Int64) (a11 : Int64) (s1 : Int32) (s2 : Int64) (hf : fL_puts_138 L a4 a5 a7 a9 a11 s1 s2 = some r) : AW ML_puts rmL_puts l g x0 (.inl (some (.int r.1))) (laE g lo sz r.2) 0 0 (laE g lo sz L) 138 [(4, .int a4), (5, .int a5), (6, .ref (lo + 10)), (7, .long a7), (9, .long a9), (11, .long a11)] [.long s2, .int s1, .ref (lo + 10)] := by
  rw [fL_puts_138] at hf
  obtain ⟨hi1, hf⟩ := xifn hf
  refine la_last 10 2 rfl (xin_v hi1) dL_puts_138 ?_
  refine aw_aload 2 dL_puts_139 rfl ?_
  refine aw_iconst (1 : Int32) dL_puts_141 (by decide) ?_
  refine aw_iload 0 dL_puts_142 rfl ?_
  refine aw_if_ne 152 dL_puts_144 (by decide) (fun c2 => ?_) (fun c2 => ?_)
  · rw [if_neg c2] at hf
    refine aw_lload 3 dL_puts_152 rfl ?_
    refine aw_lv [1, 3, 4, 5] rfl ?_
    exact wkL_puts_154 hl _ _ _ _ _ _ _ hf
  · rw [if_pos c2] at hf
    refine aw_lload 4 dL_puts_147 rfl ?_
    refine aw_goto 154 dL_puts_149 (by decide) ?_
    refine aw_lv [1, 3, 4, 5] rfl ?_
    exact wkL_puts_154 hl _ _ _ _ _ _ _ hf
def fL_puts_106 (k35 : MS → Int32 → Int32 → Int64 → Int64 → Int64 → Int32 → Option (Int32 × MS)) (L : MS) (a4 : Int32) (a5 : Int32) (a7 : Int64) (a9 : Int64) (a11 : Int64) (a13 : Int32) : Option (Int32 × MS) :=
  k35 L a4 a5 a7 a9 a11 (a13 + (1 : Int32))
set_option maxHeartbeats 4000000 in
set_option maxRecDepth 100000 in
theorem wkL_puts_106 {l : Launch} {g : xG} {x0 : xV} {lo sz : Nat} (hl : l.stackTraces = false) {r : Int32 × MS} (k35 : MS → Int32 → Int32 → Int64 → Int64 → Int64 → Int32 → Option (Int32 × MS)) (hk35 : ∀ (L : MS) (a4 : Int32) (a5 : Int32) (a7 : Int64) (a9 : Int64) (a11 : Int64) (a13 : Int32), k35 L a4 a5 a7 a9 a11 a13 = some r → AW ML_puts rmL_puts l g x0 (.inl (some (.int r.1))) (laE g lo sz r.2) 0 0 (laE g lo sz L) 35 [(4, .int a4), (5, .int a5), (6, .ref (lo + 10)), (7, .long a7), (9, .long a9), (11, .long a11), (13, .int a13)] []) (L : MS) (a4 : Int32) (a5 : Int32) (a7 : Int64) (a9 : Int64) (a11 : Int64) (a13 : Int32) (hf : fL_puts_106 k35 L a4 a5 a7 a9 a11 a13 = some r) : AW ML_puts rmL_puts l g x0 (.inl (some (.int r.1))) (laE g lo sz r.2) 0 0 (laE g lo sz L) 106 [(4, .int a4), (5, .int a5), (6, .ref (lo + 10)), (7, .long a7), (9, .long a9), (11, .long a11), (13, .int a13)] [] := by
  rw [fL_puts_106] at hf
  refine aw_iinc [(13, .int (a13 + (1 : Int32))), (4, .int a4), (5, .int a5), (6, .ref (lo + 10)), (7, .long a7), (9, .long a9), (11, .long a11)] 6 dL_puts_106 rfl rfl (by decide) rfl ?_
  refine aw_goto 35 dL_puts_109 (by decide) ?_
  refine aw_lv [1, 2, 3, 4, 5, 6, 0] rfl ?_
  exact hk35 _ _ _ _ _ _ _ hf
def fL_puts_103 (k35 : MS → Int32 → Int32 → Int64 → Int64 → Int64 → Int32 → Option (Int32 × MS)) (L : MS) (a4 : Int32) (a5 : Int32) (a7 : Int64) (a9 : Int64) (a13 : Int32) (s0 : Int64) (s1 : Int64) : Option (Int32 × MS) :=
  fL_puts_106 k35 L a4 a5 a7 a9 (s0 ||| s1) a13
set_option maxHeartbeats 4000000 in
set_option maxRecDepth 100000 in
theorem wkL_puts_103 {l : Launch} {g : xG} {x0 : xV} {lo sz : Nat} (hl : l.stackTraces = false) {r : Int32 × MS} (k35 : MS → Int32 → Int32 → Int64 → Int64 → Int64 → Int32 → Option (Int32 × MS)) (hk35 : ∀ (L : MS) (a4 : Int32) (a5 : Int32) (a7 : Int64) (a9 : Int64) (a11 : Int64) (a13 : Int32), k35 L a4 a5 a7 a9 a11 a13 = some r → AW ML_puts rmL_puts l g x0 (.inl (some (.int r.1))) (laE g lo sz r.2) 0 0 (laE g lo sz L) 35 [(4, .int a4), (5, .int a5), (6, .ref (lo + 10)), (7, .long a7), (9, .long a9), (11, .long a11), (13, .int a13)] []) (L : MS) (a4 : Int32) (a5 : Int32) (a7 : Int64) (a9 : Int64) (a13 : Int32) (s0 : Int64) (s1 : Int64) (hf : fL_puts_103 k35 L a4 a5 a7 a9 a13 s0 s1 = some r) : AW ML_puts rmL_puts l g x0 (.inl (some (.int r.1))) (laE g lo sz r.2) 0 0 (laE g lo sz L) 103 [(4, .int a4), (5, .int a5), (6, .ref (lo + 10)), (7, .long a7), (9, .long a9), (13, .int a13)] [.long s1, .long s0] := by
  rw [fL_puts_103] at hf
  refine aw_lor dL_puts_103 ?_
  refine aw_lstore [(11, .long (s0 ||| s1)), (4, .int a4), (5, .int a5), (6, .ref (lo + 10)), (7, .long a7), (9, .long a9), (13, .int a13)] dL_puts_104 (by decide) rfl ?_
  refine aw_lv [1, 2, 3, 4, 5, 0, 6] rfl ?_
  exact wkL_puts_106 hl _ hk35 _ _ _ _ _ _ _ hf
def fL_puts_35 : Nat → MS → Int32 → Int32 → Int64 → Int64 → Int64 → Int32 → Option (Int32 × MS)
  | 0, _, _, _, _, _, _, _ => none
  | n + 1, L, a4, a5, a7, a9, a11, a13 =>
    (if (49 : Int32) ≤ a13 then (if a4 = 0 then fL_puts_138 L a4 a5 a7 (a9 &&& (a11 ^^^ (-1 : Int64))) a11 (0 : Int32) a7 else fL_puts_138 L a4 a5 a7 (a9 &&& (a11 ^^^ (-1 : Int64))) a11 (0 : Int32) (a9 &&& (a11 ^^^ (-1 : Int64)))) else (if ((x_shr a9 a13) &&& (1 : Int64)) = (1 : Int64) then (if ((x_shr a11 a13) &&& (1 : Int64)) = (0 : Int64) then (fL_chain a9 a13).bind fun q5 => (fL_around q5).bind fun q6 => (if (q6 &&& ((a7 ||| a9) ^^^ (-1 : Int64))) = (0 : Int64) then fL_puts_103 (fL_puts_35 n) L a4 a5 a7 a9 a13 a11 q5 else fL_puts_103 (fL_puts_35 n) L a4 a5 a7 a9 a13 a11 (0 : Int64)) else fL_puts_106 (fL_puts_35 n) L a4 a5 a7 a9 a11 a13) else fL_puts_106 (fL_puts_35 n) L a4 a5 a7 a9 a11 a13))
set_option maxHeartbeats 4000000 in
set_option maxRecDepth 100000 in
theorem wkL_puts_35 {l : Launch} {g : xG} {x0 : xV} {lo sz : Nat} (hl : l.stackTraces = false) {r : Int32 × MS} : ∀ (n : Nat) (L : MS) (a4 : Int32) (a5 : Int32) (a7 : Int64) (a9 : Int64) (a11 : Int64) (a13 : Int32), fL_puts_35 n L a4 a5 a7 a9 a11 a13 = some r → AW ML_puts rmL_puts l g x0 (.inl (some (.int r.1))) (laE g lo sz r.2) 0 0 (laE g lo sz L) 35 [(4, .int a4), (5, .int a5), (6, .ref (lo + 10)), (7, .long a7), (9, .long a9), (11, .long a11), (13, .int a13)] [] := by
  intro n
  induction n with
  | zero => intro L a4 a5 a7 a9 a11 a13 hf; exact absurd hf (by simp [fL_puts_35])
  | succ n hk35 =>
    intro L a4 a5 a7 a9 a11 a13 hf
    rw [fL_puts_35] at hf
    refine aw_iload 6 dL_puts_35 rfl ?_
    refine aw_bipush (49 : Int32) dL_puts_37 (by decide) ?_
    refine aw_icmp_ge 112 dL_puts_39 (by decide) (fun c1 => ?_) (fun c1 => ?_)
    · rw [if_pos c1] at hf
      refine aw_lload 4 dL_puts_112 rfl ?_
      refine aw_lload 5 dL_puts_114 rfl ?_
      refine aw_ldc2 (-1 : Int64) rfl (wl4 (i := 56) rfl rfl) dL_puts_116 ?_
      refine aw_lxor dL_puts_119 ?_
      refine aw_land dL_puts_120 ?_
      refine aw_lstore [(9, .long (a9 &&& (a11 ^^^ (-1 : Int64)))), (4, .int a4), (5, .int a5), (6, .ref (lo + 10)), (7, .long a7), (11, .long a11), (13, .int a13)] dL_puts_121 (by decide) rfl ?_
      refine aw_aload 3 dL_puts_123 rfl ?_
      refine aw_iconst (0 : Int32) dL_puts_125 (by decide) ?_
      refine aw_iload 1 dL_puts_126 rfl ?_
      refine aw_if_ne 136 dL_puts_128 (by decide) (fun c2 => ?_) (fun c2 => ?_)
      · rw [if_neg c2] at hf
        refine aw_lload 0 dL_puts_136 rfl ?_
        refine aw_lv [1, 2, 3, 4, 0, 5] rfl ?_
        exact wkL_puts_138 hl _ _ _ _ _ _ _ _ hf
      · rw [if_pos c2] at hf
        refine aw_lload 4 dL_puts_131 rfl ?_
        refine aw_goto 138 dL_puts_133 (by decide) ?_
        refine aw_lv [1, 2, 3, 4, 0, 5] rfl ?_
        exact wkL_puts_138 hl _ _ _ _ _ _ _ _ hf
    · rw [if_neg c1] at hf
      refine aw_lload 4 dL_puts_42 rfl ?_
      refine aw_iload 6 dL_puts_44 rfl ?_
      refine aw_lshr dL_puts_46 ?_
      refine aw_lconst (1 : Int64) dL_puts_47 (by decide) ?_
      refine aw_land dL_puts_48 ?_
      refine aw_lconst (1 : Int64) dL_puts_49 (by decide) ?_
      refine aw_lcmp_ne 106 dL_puts_50 dL_puts_51 (by decide) (fun c3 => ?_) (fun c3 => ?_)
      · rw [if_neg c3] at hf
        refine aw_lv [0, 1, 2, 3, 4, 5, 6] rfl ?_
        exact wkL_puts_106 hl _ hk35 _ _ _ _ _ _ _ hf
      · rw [if_pos c3] at hf
        refine aw_lload 5 dL_puts_54 rfl ?_
        refine aw_iload 6 dL_puts_56 rfl ?_
        refine aw_lshr dL_puts_58 ?_
        refine aw_lconst (1 : Int64) dL_puts_59 (by decide) ?_
        refine aw_land dL_puts_60 ?_
        refine aw_lconst (0 : Int64) dL_puts_61 (by decide) ?_
        refine aw_lcmp_ne 106 dL_puts_62 dL_puts_63 (by decide) (fun c4 => ?_) (fun c4 => ?_)
        · rw [if_neg c4] at hf
          refine aw_lv [0, 1, 2, 3, 4, 5, 6] rfl ?_
          exact wkL_puts_106 hl _ hk35 _ _ _ _ _ _ _ hf
        · rw [if_pos c4] at hf
          refine aw_lload 4 dL_puts_66 rfl ?_
          refine aw_iload 6 dL_puts_68 rfl ?_
          obtain ⟨q5, hq5, hf⟩ := xbind hf
          refine aw_callS [.long a9, .int a13] 2 (ctL_chain hl _ _ hq5) ⟨wl4 (i := 57) rfl rfl, ciL_chain⟩ (wl4 (i := 58) rfl rfl) dL_puts_70 rfl rfl (Nat.le_of_ble_eq_true rfl) ⟨Nat.le_of_ble_eq_true rfl, Nat.le_of_ble_eq_true rfl⟩ ⟨Nat.le_of_ble_eq_true rfl, Nat.le_of_ble_eq_true rfl⟩ ?_
          refine aw_lstore [(14, .long q5), (4, .int a4), (5, .int a5), (6, .ref (lo + 10)), (7, .long a7), (9, .long a9), (11, .long a11), (13, .int a13)] dL_puts_73 (by decide) rfl ?_
          refine aw_lload 6 dL_puts_75 rfl ?_
          refine aw_lload 0 dL_puts_77 rfl ?_
          obtain ⟨q6, hq6, hf⟩ := xbind hf
          refine aw_callS [.long q5] 1 (ctL_around hl _ hq6) ⟨wl4 (i := 60) rfl rfl, ciL_around⟩ (wl4 (i := 61) rfl rfl) dL_puts_79 rfl rfl (Nat.le_of_ble_eq_true rfl) ⟨Nat.le_of_ble_eq_true rfl, Nat.le_of_ble_eq_true rfl⟩ ⟨Nat.le_of_ble_eq_true rfl, Nat.le_of_ble_eq_true rfl⟩ ?_
          refine aw_lload 4 dL_puts_82 rfl ?_
          refine aw_lload 5 dL_puts_84 rfl ?_
          refine aw_lor dL_puts_86 ?_
          refine aw_ldc2 (-1 : Int64) rfl (wl4 (i := 56) rfl rfl) dL_puts_87 ?_
          refine aw_lxor dL_puts_90 ?_
          refine aw_land dL_puts_91 ?_
          refine aw_lconst (0 : Int64) dL_puts_92 (by decide) ?_
          refine aw_lcmp_ne 102 dL_puts_93 dL_puts_94 (by decide) (fun c7 => ?_) (fun c7 => ?_)
          · rw [if_neg c7] at hf
            refine aw_lconst (0 : Int64) dL_puts_102 (by decide) ?_
            refine aw_lv [1, 2, 3, 4, 5, 7] rfl ?_
            exact wkL_puts_103 hl _ hk35 _ _ _ _ _ _ _ _ hf
          · rw [if_pos c7] at hf
            refine aw_lload 0 dL_puts_97 rfl ?_
            refine aw_goto 103 dL_puts_99 (by decide) ?_
            refine aw_lv [1, 2, 3, 4, 5, 7] rfl ?_
            exact wkL_puts_103 hl _ hk35 _ _ _ _ _ _ _ _ hf
def fL_puts_27 (L : MS) (a4 : Int32) (a5 : Int32) (a7 : Int64) (s0 : Int64) : Option (Int32 × MS) :=
  fL_puts_35 FU L a4 a5 a7 s0 (0 : Int64) (0 : Int32)
set_option maxHeartbeats 4000000 in
set_option maxRecDepth 100000 in
theorem wkL_puts_27 {l : Launch} {g : xG} {x0 : xV} {lo sz : Nat} (hl : l.stackTraces = false) {r : Int32 × MS} (L : MS) (a4 : Int32) (a5 : Int32) (a7 : Int64) (s0 : Int64) (hf : fL_puts_27 L a4 a5 a7 s0 = some r) : AW ML_puts rmL_puts l g x0 (.inl (some (.int r.1))) (laE g lo sz r.2) 0 0 (laE g lo sz L) 27 [(4, .int a4), (5, .int a5), (6, .ref (lo + 10)), (7, .long a7)] [.long s0] := by
  rw [fL_puts_27] at hf
  refine aw_lstore [(9, .long s0), (4, .int a4), (5, .int a5), (6, .ref (lo + 10)), (7, .long a7)] dL_puts_27 (by decide) rfl ?_
  refine aw_lconst (0 : Int64) dL_puts_29 (by decide) ?_
  refine aw_lstore [(11, .long (0 : Int64)), (9, .long s0), (4, .int a4), (5, .int a5), (6, .ref (lo + 10)), (7, .long a7)] dL_puts_30 (by decide) rfl ?_
  refine aw_iconst (0 : Int32) dL_puts_32 (by decide) ?_
  refine aw_istore [(13, .int (0 : Int32)), (11, .long (0 : Int64)), (9, .long s0), (4, .int a4), (5, .int a5), (6, .ref (lo + 10)), (7, .long a7)] dL_puts_33 (by decide) rfl ?_
  refine aw_lv [3, 4, 5, 6, 2, 1, 0] rfl ?_
  exact wkL_puts_35 hl _ _ _ _ _ _ _ _ hf
def fL_puts_10 (L : MS) (a0 : Int64) (a2 : Int64) (a4 : Int32) (a5 : Int32) (s0 : Int64) : Option (Int32 × MS) :=
  (if a4 = 0 then fL_puts_27 L a4 a5 (s0 ||| (x_shl (1 : Int64) a5)) a2 else fL_puts_27 L a4 a5 (s0 ||| (x_shl (1 : Int64) a5)) a0)
set_option maxHeartbeats 4000000 in
set_option maxRecDepth 100000 in
theorem wkL_puts_10 {l : Launch} {g : xG} {x0 : xV} {lo sz : Nat} (hl : l.stackTraces = false) {r : Int32 × MS} (L : MS) (a0 : Int64) (a2 : Int64) (a4 : Int32) (a5 : Int32) (s0 : Int64) (hf : fL_puts_10 L a0 a2 a4 a5 s0 = some r) : AW ML_puts rmL_puts l g x0 (.inl (some (.int r.1))) (laE g lo sz r.2) 0 0 (laE g lo sz L) 10 [(0, .long a0), (2, .long a2), (4, .int a4), (5, .int a5), (6, .ref (lo + 10))] [.long s0] := by
  rw [fL_puts_10] at hf
  refine aw_lconst (1 : Int64) dL_puts_10 (by decide) ?_
  refine aw_iload 3 dL_puts_11 rfl ?_
  refine aw_lshl dL_puts_13 ?_
  refine aw_lor dL_puts_14 ?_
  refine aw_lstore [(7, .long (s0 ||| (x_shl (1 : Int64) a5))), (0, .long a0), (2, .long a2), (4, .int a4), (5, .int a5), (6, .ref (lo + 10))] dL_puts_15 (by decide) rfl ?_
  refine aw_iload 3 dL_puts_17 rfl ?_
  refine aw_if_ne 26 dL_puts_19 (by decide) (fun c1 => ?_) (fun c1 => ?_)
  · rw [if_neg c1] at hf
    refine aw_lload_n 1 dL_puts_26 rfl ?_
    refine aw_lv [3, 4, 5, 0] rfl ?_
    exact wkL_puts_27 hl _ _ _ _ _ hf
  · rw [if_pos c1] at hf
    refine aw_lload_n 2 dL_puts_22 rfl ?_
    refine aw_goto 27 dL_puts_23 (by decide) ?_
    refine aw_lv [3, 4, 5, 0] rfl ?_
    exact wkL_puts_27 hl _ _ _ _ _ hf
def fL_puts (L : MS) (a0 : Int64) (a2 : Int64) (a4 : Int32) (a5 : Int32) : Option (Int32 × MS) :=
  (if a4 = 0 then fL_puts_10 L a0 a2 a4 a5 a0 else fL_puts_10 L a0 a2 a4 a5 a2)
set_option maxHeartbeats 4000000 in
set_option maxRecDepth 100000 in
theorem ctL_puts {l : Launch} {g : xG} {lo sz : Nat} (hl : l.stackTraces = false) {r : Int32 × MS} (L : MS) (a0 : Int64) (a2 : Int64) (a4 : Int32) (a5 : Int32) (hf : fL_puts L a0 a2 a4 a5 = some r) : CT yL_puts ML_puts rmL_puts l g [.long a0, .long a2, .int a4, .int a5, .ref (lo + 10)] (laE g lo sz L) (.inl (some (.int r.1))) (laE g lo sz r.2) := by
  rw [fL_puts] at hf
  refine CT.of (lv0 := [(0, .long a0), (2, .long a2), (4, .int a4), (5, .int a5), (6, .ref (lo + 10))]) (by decide +kernel) rfl rfl (Nat.le_of_ble_eq_true rfl) rfl hl ?_
  refine aw_iload 2 dL_puts_0 rfl ?_
  refine aw_if_ne 9 dL_puts_2 (by decide) (fun c1 => ?_) (fun c1 => ?_)
  · rw [if_neg c1] at hf
    refine aw_lload_n 1 dL_puts_9 rfl ?_
    refine aw_lv [0, 1, 2, 3, 4] rfl ?_
    exact wkL_puts_10 hl _ _ _ _ _ _ hf
  · rw [if_pos c1] at hf
    refine aw_lload_n 0 dL_puts_5 rfl ?_
    refine aw_goto 10 dL_puts_6 (by decide) ?_
    refine aw_lv [0, 1, 2, 3, 4] rfl ?_
    exact wkL_puts_10 hl _ _ _ _ _ _ hf
abbrev ML_latest : xM := (RL, cL_latest, 5, (some .int), "latest")
abbrev rmL_latest : Room := { frames := 0, cells := 0, slots := 0, locals := 0 }
theorem ciL_latest : Cond.code yL_latest cL_latest 5 (some .int) ∈ wt ∧ Cond.initialized yL_latest.cls ∈ wt ∧ (yL_latest.cls ≠ "java/lang/invoke/MethodHandle" ∧ yL_latest.cls ≠ "java/lang/invoke/VarHandle" ∧ (parseMethodDescriptor yL_latest.desc).map (fun d => d.parameters.length) = some 3) := ⟨wl4 (i := 36) rfl rfl, wl1 (i := 0) rfl rfl, by decide +kernel, by decide +kernel, by decide +kernel⟩
def fL_latest_27 (k5 : MS → Int32 → Int32 → Int32 → Option (Int32)) (L : MS) (a2 : Int32) (a4 : Int32) (s0 : Int32) : Option (Int32) :=
  k5 L a2 s0 (a4 + (1 : Int32))
set_option maxHeartbeats 4000000 in
set_option maxRecDepth 100000 in
theorem wkL_latest_27 {l : Launch} {g : xG} {x0 : xV} {lo sz : Nat} (hl : l.stackTraces = false) {r : Int32} (k5 : MS → Int32 → Int32 → Int32 → Option (Int32)) (hk5 : ∀ (L : MS) (a2 : Int32) (a3 : Int32) (a4 : Int32), k5 L a2 a3 a4 = some r → AW ML_latest rmL_latest l g x0 (.inl (some (.int r))) (laE g lo sz L) 0 0 (laE g lo sz L) 5 [(0, .ref (lo + 2)), (1, .ref (lo + 7)), (2, .int a2), (3, .int a3), (4, .int a4)] []) (L : MS) (a2 : Int32) (a4 : Int32) (s0 : Int32) (hf : fL_latest_27 k5 L a2 a4 s0 = some r) : AW ML_latest rmL_latest l g x0 (.inl (some (.int r))) (laE g lo sz L) 0 0 (laE g lo sz L) 27 [(0, .ref (lo + 2)), (1, .ref (lo + 7)), (2, .int a2), (4, .int a4)] [.int s0] := by
  rw [fL_latest_27] at hf
  refine aw_istore_n [(3, .int s0), (0, .ref (lo + 2)), (1, .ref (lo + 7)), (2, .int a2), (4, .int a4)] dL_latest_27 rfl (by decide) rfl ?_
  refine aw_iinc [(4, .int (a4 + (1 : Int32))), (3, .int s0), (0, .ref (lo + 2)), (1, .ref (lo + 7)), (2, .int a2)] 4 dL_latest_28 rfl rfl (by decide) rfl ?_
  refine aw_goto 5 dL_latest_31 (by decide) ?_
  refine aw_lv [2, 3, 4, 1, 0] rfl ?_
  exact hk5 _ _ _ _ hf
def fL_latest_5 : Nat → MS → Int32 → Int32 → Int32 → Option (Int32)
  | 0, _, _, _, _ => none
  | n + 1, L, a2, a3, a4 =>
    (if (m_I L 7 (2 : Int32).toNatClampNeg) ≤ a4 then some a3 else (if xin a4 64 = true then (if (m_I L 2 a4.toNatClampNeg) = a2 then fL_latest_27 (fL_latest_5 n) L a2 a4 a4 else fL_latest_27 (fL_latest_5 n) L a2 a4 a3) else none))
set_option maxHeartbeats 4000000 in
set_option maxRecDepth 100000 in
theorem wkL_latest_5 {l : Launch} {g : xG} {x0 : xV} {lo sz : Nat} (hl : l.stackTraces = false) {r : Int32} : ∀ (n : Nat) (L : MS) (a2 : Int32) (a3 : Int32) (a4 : Int32), fL_latest_5 n L a2 a3 a4 = some r → AW ML_latest rmL_latest l g x0 (.inl (some (.int r))) (laE g lo sz L) 0 0 (laE g lo sz L) 5 [(0, .ref (lo + 2)), (1, .ref (lo + 7)), (2, .int a2), (3, .int a3), (4, .int a4)] [] := by
  intro n
  induction n with
  | zero => intro L a2 a3 a4 hf; exact absurd hf (by simp [fL_latest_5])
  | succ n hk5 =>
    intro L a2 a3 a4 hf
    rw [fL_latest_5] at hf
    refine aw_iload 4 dL_latest_5 rfl ?_
    refine aw_aload_n 1 dL_latest_7 rfl ?_
    refine aw_iconst (2 : Int32) dL_latest_8 (by decide) ?_
    refine la_iald 7 5 rfl (xin_v (by decide)) dL_latest_9 ?_
    refine aw_icmp_ge 34 dL_latest_10 (by decide) (fun c1 => ?_) (fun c1 => ?_)
    · rw [if_pos c1] at hf
      refine aw_iload_n 3 dL_latest_34 rfl ?_
      cases hf
      exact aw_iret dL_latest_35 rfl rfl rfl ⟨Nat.le_of_ble_eq_true rfl, Nat.le_of_ble_eq_true rfl⟩
    · rw [if_neg c1] at hf
      refine aw_aload_n 0 dL_latest_13 rfl ?_
      refine aw_iload 4 dL_latest_14 rfl ?_
      obtain ⟨hi2, hf⟩ := xifn hf
      refine la_iald 2 64 rfl (xin_v hi2) dL_latest_16 ?_
      refine aw_iload_n 2 dL_latest_17 rfl ?_
      refine aw_icmp_ne 26 dL_latest_18 (by decide) (fun c3 => ?_) (fun c3 => ?_)
      · rw [if_neg c3] at hf
        refine aw_iload_n 3 dL_latest_26 rfl ?_
        refine aw_lv [0, 1, 2, 4] rfl ?_
        exact wkL_latest_27 hl _ hk5 _ _ _ _ hf
      · rw [if_pos c3] at hf
        refine aw_iload 4 dL_latest_21 rfl ?_
        refine aw_goto 27 dL_latest_23 (by decide) ?_
        refine aw_lv [0, 1, 2, 4] rfl ?_
        exact wkL_latest_27 hl _ hk5 _ _ _ _ hf
def fL_latest (L : MS) (a2 : Int32) : Option (Int32) :=
  fL_latest_5 FU L a2 (0 : Int32) (0 : Int32)
set_option maxHeartbeats 4000000 in
set_option maxRecDepth 100000 in
theorem ctL_latest {l : Launch} {g : xG} {lo sz : Nat} (hl : l.stackTraces = false) {r : Int32} (L : MS) (a2 : Int32) (hf : fL_latest L a2 = some r) : CT yL_latest ML_latest rmL_latest l g [.ref (lo + 2), .ref (lo + 7), .int a2] (laE g lo sz L) (.inl (some (.int r))) (laE g lo sz L) := by
  rw [fL_latest] at hf
  refine CT.of (lv0 := [(0, .ref (lo + 2)), (1, .ref (lo + 7)), (2, .int a2)]) (by decide +kernel) rfl rfl (Nat.le_of_ble_eq_true rfl) rfl hl ?_
  refine aw_iconst (0 : Int32) dL_latest_0 (by decide) ?_
  refine aw_istore_n [(3, .int (0 : Int32)), (0, .ref (lo + 2)), (1, .ref (lo + 7)), (2, .int a2)] dL_latest_1 rfl (by decide) rfl ?_
  refine aw_iconst (0 : Int32) dL_latest_2 (by decide) ?_
  refine aw_istore [(4, .int (0 : Int32)), (3, .int (0 : Int32)), (0, .ref (lo + 2)), (1, .ref (lo + 7)), (2, .int a2)] dL_latest_3 (by decide) rfl ?_
  refine aw_lv [2, 3, 4, 1, 0] rfl ?_
  exact wkL_latest_5 hl _ _ _ _ _ hf
abbrev ML_side : xM := (RL, cL_side, 3, (some .int), "side")
abbrev rmL_side : Room := { frames := 0, cells := 0, slots := 0, locals := 0 }
theorem ciL_side : Cond.code yL_side cL_side 3 (some .int) ∈ wt ∧ Cond.initialized yL_side.cls ∈ wt ∧ (yL_side.cls ≠ "java/lang/invoke/MethodHandle" ∧ yL_side.cls ≠ "java/lang/invoke/VarHandle" ∧ (parseMethodDescriptor yL_side.desc).map (fun d => d.parameters.length) = some 3) := ⟨wl4 (i := 86) rfl rfl, wl1 (i := 0) rfl rfl, by decide +kernel, by decide +kernel, by decide +kernel⟩
def fL_side_18 (L : MS) (a2 : Int32) (s0 : Int32) : Option (Int32) :=
  (if xin a2 48 = true then some ((s0 + (m_I L 6 a2.toNatClampNeg)) - (s0 + (m_I L 6 a2.toNatClampNeg)) / (2 : Int32) * (2 : Int32)) else none)
set_option maxHeartbeats 4000000 in
set_option maxRecDepth 100000 in
theorem wkL_side_18 {l : Launch} {g : xG} {x0 : xV} {lo sz : Nat} (hl : l.stackTraces = false) {r : Int32} (L : MS) (a2 : Int32) (s0 : Int32) (hf : fL_side_18 L a2 s0 = some r) : AW ML_side rmL_side l g x0 (.inl (some (.int r))) (laE g lo sz L) 0 0 (laE g lo sz L) 18 [(1, .ref (lo + 6)), (2, .int a2)] [.int s0] := by
  rw [fL_side_18] at hf
  refine aw_aload_n 0 dL_side_18 rfl ?_
  refine aw_iload_n 1 dL_side_19 rfl ?_
  obtain ⟨hi1, hf⟩ := xifn hf
  refine la_iald 6 48 rfl (xin_v hi1) dL_side_20 ?_
  refine aw_iadd dL_side_21 ?_
  refine aw_iconst (2 : Int32) dL_side_22 (by decide) ?_
  refine aw_irem dL_side_23 (by decide) ?_
  cases hf
  exact aw_iret dL_side_24 rfl rfl rfl ⟨Nat.le_of_ble_eq_true rfl, Nat.le_of_ble_eq_true rfl⟩
def fL_side (L : MS) (a2 : Int32) : Option (Int32) :=
  (if xin ((16 : Int32) + a2) 64 = true then (if ((m_I L 4 ((16 : Int32) + a2).toNatClampNeg) - (m_I L 4 ((16 : Int32) + a2).toNatClampNeg) / (10 : Int32) * (10 : Int32)) ≤ (1 : Int32) then fL_side_18 L a2 (0 : Int32) else fL_side_18 L a2 (1 : Int32)) else none)
set_option maxHeartbeats 4000000 in
set_option maxRecDepth 100000 in
theorem ctL_side {l : Launch} {g : xG} {lo sz : Nat} (hl : l.stackTraces = false) {r : Int32} (L : MS) (a2 : Int32) (hf : fL_side L a2 = some r) : CT yL_side ML_side rmL_side l g [.ref (lo + 4), .ref (lo + 6), .int a2] (laE g lo sz L) (.inl (some (.int r))) (laE g lo sz L) := by
  rw [fL_side] at hf
  refine CT.of (lv0 := [(0, .ref (lo + 4)), (1, .ref (lo + 6)), (2, .int a2)]) (by decide +kernel) rfl rfl (Nat.le_of_ble_eq_true rfl) rfl hl ?_
  refine aw_aload_n 0 dL_side_0 rfl ?_
  refine aw_bipush (16 : Int32) dL_side_1 (by decide) ?_
  refine aw_iload_n 2 dL_side_3 rfl ?_
  refine aw_iadd dL_side_4 ?_
  obtain ⟨hi1, hf⟩ := xifn hf
  refine la_iald 4 64 rfl (xin_v hi1) dL_side_5 ?_
  refine aw_bipush (10 : Int32) dL_side_6 (by decide) ?_
  refine aw_irem dL_side_8 (by decide) ?_
  refine aw_iconst (1 : Int32) dL_side_9 (by decide) ?_
  refine aw_icmp_le 17 dL_side_10 (by decide) (fun c2 => ?_) (fun c2 => ?_)
  · rw [if_pos c2] at hf
    refine aw_iconst (0 : Int32) dL_side_17 (by decide) ?_
    refine aw_lv [1, 2] rfl ?_
    exact wkL_side_18 hl _ _ _ hf
  · rw [if_neg c2] at hf
    refine aw_iconst (1 : Int32) dL_side_13 (by decide) ?_
    refine aw_goto 18 dL_side_14 (by decide) ?_
    refine aw_lv [1, 2] rfl ?_
    exact wkL_side_18 hl _ _ _ hf
abbrev ML_score : xM := (RL, cL_score, 11, (some .int), "score")
abbrev rmL_score : Room := { frames := 2, cells := 0, slots := 0, locals := 50 }
theorem ciL_score : Cond.code yL_score cL_score 11 (some .int) ∈ wt ∧ Cond.initialized yL_score.cls ∈ wt ∧ (yL_score.cls ≠ "java/lang/invoke/MethodHandle" ∧ yL_score.cls ≠ "java/lang/invoke/VarHandle" ∧ (parseMethodDescriptor yL_score.desc).map (fun d => d.parameters.length) = some 3) := ⟨wl4 (i := 51) rfl rfl, wl1 (i := 0) rfl rfl, by decide +kernel, by decide +kernel, by decide +kernel⟩
def fL_score_120 (k39 : Int64 → Int64 → Int32 → Int64 → Int32 → Option (Int32)) (a0 : Int64) (a2 : Int64) (a5 : Int32) (a6 : Int64) (a8 : Int32) : Option (Int32) :=
  k39 a0 a2 a5 a6 (a8 + (1 : Int32))
set_option maxHeartbeats 4000000 in
set_option maxRecDepth 100000 in
theorem wkL_score_120 {l : Launch} {g : xG} {x0 : xV} {lo sz : Nat} {L : MS} (hl : l.stackTraces = false) {r : Int32} (k39 : Int64 → Int64 → Int32 → Int64 → Int32 → Option (Int32)) (hk39 : ∀ (a0 : Int64) (a2 : Int64) (a5 : Int32) (a6 : Int64) (a8 : Int32), k39 a0 a2 a5 a6 a8 = some r → AW ML_score rmL_score l g x0 (.inl (some (.int r))) (laE g lo sz L) 0 0 (laE g lo sz L) 39 [(0, .long a0), (2, .long a2), (5, .int a5), (6, .long a6), (8, .int a8)] []) (a0 : Int64) (a2 : Int64) (a5 : Int32) (a6 : Int64) (a8 : Int32) (hf : fL_score_120 k39 a0 a2 a5 a6 a8 = some r) : AW ML_score rmL_score l g x0 (.inl (some (.int r))) (laE g lo sz L) 0 0 (laE g lo sz L) 120 [(0, .long a0), (2, .long a2), (5, .int a5), (6, .long a6), (8, .int a8)] [] := by
  rw [fL_score_120] at hf
  refine aw_iinc [(8, .int (a8 + (1 : Int32))), (0, .long a0), (2, .long a2), (5, .int a5), (6, .long a6)] 4 dL_score_120 rfl rfl (by decide) rfl ?_
  refine aw_goto 39 dL_score_123 (by decide) ?_
  refine aw_lv [1, 2, 3, 4, 0] rfl ?_
  exact hk39 _ _ _ _ _ hf
def fL_score_117 (k39 : Int64 → Int64 → Int32 → Int64 → Int32 → Option (Int32)) (a0 : Int64) (a2 : Int64) (a6 : Int64) (a8 : Int32) (s0 : Int32) (s1 : Int32) : Option (Int32) :=
  fL_score_120 k39 a0 a2 (s0 + s1) a6 a8
set_option maxHeartbeats 4000000 in
set_option maxRecDepth 100000 in
theorem wkL_score_117 {l : Launch} {g : xG} {x0 : xV} {lo sz : Nat} {L : MS} (hl : l.stackTraces = false) {r : Int32} (k39 : Int64 → Int64 → Int32 → Int64 → Int32 → Option (Int32)) (hk39 : ∀ (a0 : Int64) (a2 : Int64) (a5 : Int32) (a6 : Int64) (a8 : Int32), k39 a0 a2 a5 a6 a8 = some r → AW ML_score rmL_score l g x0 (.inl (some (.int r))) (laE g lo sz L) 0 0 (laE g lo sz L) 39 [(0, .long a0), (2, .long a2), (5, .int a5), (6, .long a6), (8, .int a8)] []) (a0 : Int64) (a2 : Int64) (a6 : Int64) (a8 : Int32) (s0 : Int32) (s1 : Int32) (hf : fL_score_117 k39 a0 a2 a6 a8 s0 s1 = some r) : AW ML_score rmL_score l g x0 (.inl (some (.int r))) (laE g lo sz L) 0 0 (laE g lo sz L) 117 [(0, .long a0), (2, .long a2), (6, .long a6), (8, .int a8)] [.int s1, .int s0] := by
  rw [fL_score_117] at hf
  refine aw_iadd dL_score_117 ?_
  refine aw_istore [(5, .int (s0 + s1)), (0, .long a0), (2, .long a2), (6, .long a6), (8, .int a8)] dL_score_118 (by decide) rfl ?_
  refine aw_lv [1, 2, 0, 3, 4] rfl ?_
  exact wkL_score_120 hl _ hk39 _ _ _ _ _ hf
def fL_score_94 (k39 : Int64 → Int64 → Int32 → Int64 → Int32 → Option (Int32)) (a0 : Int64) (a2 : Int64) (a6 : Int64) (a8 : Int32) (a9 : Int64) (s0 : Int32) : Option (Int32) :=
  (if (a9 &&& a2) = (0 : Int64) then fL_score_117 k39 a0 a2 a6 a8 s0 (0 : Int32) else (if (a9 &&& a0) = (0 : Int64) then fL_score_117 k39 a0 a2 a6 a8 s0 (-1 : Int32) else fL_score_117 k39 a0 a2 a6 a8 s0 (0 : Int32)))
set_option maxHeartbeats 4000000 in
set_option maxRecDepth 100000 in
theorem wkL_score_94 {l : Launch} {g : xG} {x0 : xV} {lo sz : Nat} {L : MS} (hl : l.stackTraces = false) {r : Int32} (k39 : Int64 → Int64 → Int32 → Int64 → Int32 → Option (Int32)) (hk39 : ∀ (a0 : Int64) (a2 : Int64) (a5 : Int32) (a6 : Int64) (a8 : Int32), k39 a0 a2 a5 a6 a8 = some r → AW ML_score rmL_score l g x0 (.inl (some (.int r))) (laE g lo sz L) 0 0 (laE g lo sz L) 39 [(0, .long a0), (2, .long a2), (5, .int a5), (6, .long a6), (8, .int a8)] []) (a0 : Int64) (a2 : Int64) (a6 : Int64) (a8 : Int32) (a9 : Int64) (s0 : Int32) (hf : fL_score_94 k39 a0 a2 a6 a8 a9 s0 = some r) : AW ML_score rmL_score l g x0 (.inl (some (.int r))) (laE g lo sz L) 0 0 (laE g lo sz L) 94 [(0, .long a0), (2, .long a2), (6, .long a6), (8, .int a8), (9, .long a9)] [.int s0] := by
  rw [fL_score_94] at hf
  refine aw_lload 4 dL_score_94 rfl ?_
  refine aw_lload_n 1 dL_score_96 rfl ?_
  refine aw_land dL_score_97 ?_
  refine aw_lconst (0 : Int64) dL_score_98 (by decide) ?_
  refine aw_lcmp_eq 116 dL_score_99 dL_score_100 (by decide) (fun c1 => ?_) (fun c1 => ?_)
  · rw [if_pos c1] at hf
    refine aw_iconst (0 : Int32) dL_score_116 (by decide) ?_
    refine aw_lv [0, 1, 2, 3] rfl ?_
    exact wkL_score_117 hl _ hk39 _ _ _ _ _ _ hf
  · rw [if_neg c1] at hf
    refine aw_lload 4 dL_score_103 rfl ?_
    refine aw_lload_n 0 dL_score_105 rfl ?_
    refine aw_land dL_score_106 ?_
    refine aw_lconst (0 : Int64) dL_score_107 (by decide) ?_
    refine aw_lcmp_ne 116 dL_score_108 dL_score_109 (by decide) (fun c2 => ?_) (fun c2 => ?_)
    · rw [if_neg c2] at hf
      refine aw_iconst (0 : Int32) dL_score_116 (by decide) ?_
      refine aw_lv [0, 1, 2, 3] rfl ?_
      exact wkL_score_117 hl _ hk39 _ _ _ _ _ _ hf
    · rw [if_pos c2] at hf
      refine aw_iconst (-1 : Int32) dL_score_112 (by decide) ?_
      refine aw_goto 117 dL_score_113 (by decide) ?_
      refine aw_lv [0, 1, 2, 3] rfl ?_
      exact wkL_score_117 hl _ hk39 _ _ _ _ _ _ hf
def fL_score_39 : Nat → Int64 → Int64 → Int32 → Int64 → Int32 → Option (Int32)
  | 0, _, _, _, _, _ => none
  | n + 1, a0, a2, a5, a6, a8 =>
    (if (49 : Int32) ≤ a8 then some a5 else (if ((x_shr a6 a8) &&& (1 : Int64)) = (1 : Int64) then (fL_chain a6 a8).bind fun q3 => (fL_around q3).bind fun q4 => (if (q4 &&& a0) = (0 : Int64) then fL_score_94 (fL_score_39 n) a0 a2 a6 a8 q4 a5 else (if (q4 &&& a2) = (0 : Int64) then fL_score_117 (fL_score_39 n) a0 a2 a6 a8 a5 (1 : Int32) else fL_score_94 (fL_score_39 n) a0 a2 a6 a8 q4 a5)) else fL_score_120 (fL_score_39 n) a0 a2 a5 a6 a8))
set_option maxHeartbeats 4000000 in
set_option maxRecDepth 100000 in
theorem wkL_score_39 {l : Launch} {g : xG} {x0 : xV} {lo sz : Nat} {L : MS} (hl : l.stackTraces = false) {r : Int32} : ∀ (n : Nat) (a0 : Int64) (a2 : Int64) (a5 : Int32) (a6 : Int64) (a8 : Int32), fL_score_39 n a0 a2 a5 a6 a8 = some r → AW ML_score rmL_score l g x0 (.inl (some (.int r))) (laE g lo sz L) 0 0 (laE g lo sz L) 39 [(0, .long a0), (2, .long a2), (5, .int a5), (6, .long a6), (8, .int a8)] [] := by
  intro n
  induction n with
  | zero => intro a0 a2 a5 a6 a8 hf; exact absurd hf (by simp [fL_score_39])
  | succ n hk39 =>
    intro a0 a2 a5 a6 a8 hf
    rw [fL_score_39] at hf
    refine aw_iload 4 dL_score_39 rfl ?_
    refine aw_bipush (49 : Int32) dL_score_41 (by decide) ?_
    refine aw_icmp_ge 126 dL_score_43 (by decide) (fun c1 => ?_) (fun c1 => ?_)
    · rw [if_pos c1] at hf
      refine aw_iload 2 dL_score_126 rfl ?_
      cases hf
      exact aw_iret dL_score_128 rfl rfl rfl ⟨Nat.le_of_ble_eq_true rfl, Nat.le_of_ble_eq_true rfl⟩
    · rw [if_neg c1] at hf
      refine aw_lload 3 dL_score_46 rfl ?_
      refine aw_iload 4 dL_score_48 rfl ?_
      refine aw_lshr dL_score_50 ?_
      refine aw_lconst (1 : Int64) dL_score_51 (by decide) ?_
      refine aw_land dL_score_52 ?_
      refine aw_lconst (1 : Int64) dL_score_53 (by decide) ?_
      refine aw_lcmp_ne 120 dL_score_54 dL_score_55 (by decide) (fun c2 => ?_) (fun c2 => ?_)
      · rw [if_neg c2] at hf
        refine aw_lv [0, 1, 2, 3, 4] rfl ?_
        exact wkL_score_120 hl _ hk39 _ _ _ _ _ hf
      · rw [if_pos c2] at hf
        refine aw_lload 3 dL_score_58 rfl ?_
        refine aw_iload 4 dL_score_60 rfl ?_
        obtain ⟨q3, hq3, hf⟩ := xbind hf
        refine aw_callS [.long a6, .int a8] 2 (ctL_chain hl _ _ hq3) ⟨wl4 (i := 57) rfl rfl, ciL_chain⟩ (wl4 (i := 58) rfl rfl) dL_score_62 rfl rfl (Nat.le_of_ble_eq_true rfl) ⟨Nat.le_of_ble_eq_true rfl, Nat.le_of_ble_eq_true rfl⟩ ⟨Nat.le_of_ble_eq_true rfl, Nat.le_of_ble_eq_true rfl⟩ ?_
        obtain ⟨q4, hq4, hf⟩ := xbind hf
        refine aw_callS [.long q3] 1 (ctL_around hl _ hq4) ⟨wl4 (i := 60) rfl rfl, ciL_around⟩ (wl4 (i := 61) rfl rfl) dL_score_65 rfl rfl (Nat.le_of_ble_eq_true rfl) ⟨Nat.le_of_ble_eq_true rfl, Nat.le_of_ble_eq_true rfl⟩ ⟨Nat.le_of_ble_eq_true rfl, Nat.le_of_ble_eq_true rfl⟩ ?_
        refine aw_lstore [(9, .long q4), (0, .long a0), (2, .long a2), (5, .int a5), (6, .long a6), (8, .int a8)] dL_score_68 (by decide) rfl ?_
        refine aw_iload 3 dL_score_70 rfl ?_
        refine aw_lload 0 dL_score_72 rfl ?_
        refine aw_lload_n 1 dL_score_74 rfl ?_
        refine aw_land dL_score_75 ?_
        refine aw_lconst (0 : Int64) dL_score_76 (by decide) ?_
        refine aw_lcmp_eq 94 dL_score_77 dL_score_78 (by decide) (fun c5 => ?_) (fun c5 => ?_)
        · rw [if_pos c5] at hf
          refine aw_lv [1, 2, 4, 5, 0] rfl ?_
          exact wkL_score_94 hl _ hk39 _ _ _ _ _ _ hf
        · rw [if_neg c5] at hf
          refine aw_lload 0 dL_score_81 rfl ?_
          refine aw_lload_n 2 dL_score_83 rfl ?_
          refine aw_land dL_score_84 ?_
          refine aw_lconst (0 : Int64) dL_score_85 (by decide) ?_
          refine aw_lcmp_ne 94 dL_score_86 dL_score_87 (by decide) (fun c6 => ?_) (fun c6 => ?_)
          · rw [if_neg c6] at hf
            refine aw_lv [1, 2, 4, 5, 0] rfl ?_
            exact wkL_score_94 hl _ hk39 _ _ _ _ _ _ hf
          · rw [if_pos c6] at hf
            refine aw_iconst (1 : Int32) dL_score_90 (by decide) ?_
            refine aw_goto 117 dL_score_91 (by decide) ?_
            refine aw_lv [1, 2, 4, 5] rfl ?_
            exact wkL_score_117 hl _ hk39 _ _ _ _ _ _ hf
def fL_score_20 (a0 : Int64) (a2 : Int64) (s0 : Int32) (s1 : Int32) : Option (Int32) :=
  fL_score_39 FU a0 a2 (s0 - s1) ((562949953421311 : Int64) &&& ((a0 ||| a2) ^^^ (-1 : Int64))) (0 : Int32)
set_option maxHeartbeats 4000000 in
set_option maxRecDepth 100000 in
theorem wkL_score_20 {l : Launch} {g : xG} {x0 : xV} {lo sz : Nat} {L : MS} (hl : l.stackTraces = false) {r : Int32} (a0 : Int64) (a2 : Int64) (s0 : Int32) (s1 : Int32) (hf : fL_score_20 a0 a2 s0 s1 = some r) : AW ML_score rmL_score l g x0 (.inl (some (.int r))) (laE g lo sz L) 0 0 (laE g lo sz L) 20 [(0, .long a0), (2, .long a2)] [.int s1, .int s0] := by
  rw [fL_score_20] at hf
  refine aw_isub dL_score_20 ?_
  refine aw_istore [(5, .int (s0 - s1)), (0, .long a0), (2, .long a2)] dL_score_21 (by decide) rfl ?_
  refine aw_ldc2 (562949953421311 : Int64) rfl (wl4 (i := 55) rfl rfl) dL_score_23 ?_
  refine aw_lload_n 1 dL_score_26 rfl ?_
  refine aw_lload_n 2 dL_score_27 rfl ?_
  refine aw_lor dL_score_28 ?_
  refine aw_ldc2 (-1 : Int64) rfl (wl4 (i := 56) rfl rfl) dL_score_29 ?_
  refine aw_lxor dL_score_32 ?_
  refine aw_land dL_score_33 ?_
  refine aw_lstore [(6, .long ((562949953421311 : Int64) &&& ((a0 ||| a2) ^^^ (-1 : Int64)))), (5, .int (s0 - s1)), (0, .long a0), (2, .long a2)] dL_score_34 (by decide) rfl ?_
  refine aw_iconst (0 : Int32) dL_score_36 (by decide) ?_
  refine aw_istore [(8, .int (0 : Int32)), (6, .long ((562949953421311 : Int64) &&& ((a0 ||| a2) ^^^ (-1 : Int64)))), (5, .int (s0 - s1)), (0, .long a0), (2, .long a2)] dL_score_37 (by decide) rfl ?_
  refine aw_lv [3, 4, 2, 1, 0] rfl ?_
  exact wkL_score_39 hl _ _ _ _ _ _ hf
def fL_score (a0 : Int64) (a2 : Int64) (a4 : Int32) : Option (Int32) :=
  (fL_bits a0).bind fun q1 => (fL_bits a2).bind fun q2 => (if a4 = 0 then fL_score_20 a0 a2 (q1 - q2) (6 : Int32) else fL_score_20 a0 a2 (q1 - q2) (0 : Int32))
set_option maxHeartbeats 4000000 in
set_option maxRecDepth 100000 in
theorem ctL_score {l : Launch} {g : xG} {lo sz : Nat} {L : MS} (hl : l.stackTraces = false) {r : Int32} (a0 : Int64) (a2 : Int64) (a4 : Int32) (hf : fL_score a0 a2 a4 = some r) : CT yL_score ML_score rmL_score l g [.long a0, .long a2, .int a4] (laE g lo sz L) (.inl (some (.int r))) (laE g lo sz L) := by
  rw [fL_score] at hf
  refine CT.of (lv0 := [(0, .long a0), (2, .long a2), (4, .int a4)]) (by decide +kernel) rfl rfl (Nat.le_of_ble_eq_true rfl) rfl hl ?_
  refine aw_lload_n 0 dL_score_0 rfl ?_
  obtain ⟨q1, hq1, hf⟩ := xbind hf
  refine aw_callS [.long a0] 1 (ctL_bits hl _ hq1) ⟨wl4 (i := 52) rfl rfl, ciL_bits⟩ (wl4 (i := 53) rfl rfl) dL_score_1 rfl rfl (Nat.le_of_ble_eq_true rfl) ⟨Nat.le_of_ble_eq_true rfl, Nat.le_of_ble_eq_true rfl⟩ ⟨Nat.le_of_ble_eq_true rfl, Nat.le_of_ble_eq_true rfl⟩ ?_
  refine aw_lload_n 1 dL_score_4 rfl ?_
  obtain ⟨q2, hq2, hf⟩ := xbind hf
  refine aw_callS [.long a2] 1 (ctL_bits hl _ hq2) ⟨wl4 (i := 52) rfl rfl, ciL_bits⟩ (wl4 (i := 53) rfl rfl) dL_score_5 rfl rfl (Nat.le_of_ble_eq_true rfl) ⟨Nat.le_of_ble_eq_true rfl, Nat.le_of_ble_eq_true rfl⟩ ⟨Nat.le_of_ble_eq_true rfl, Nat.le_of_ble_eq_true rfl⟩ ?_
  refine aw_isub dL_score_8 ?_
  refine aw_iload 2 dL_score_9 rfl ?_
  refine aw_if_ne 19 dL_score_11 (by decide) (fun c3 => ?_) (fun c3 => ?_)
  · rw [if_neg c3] at hf
    refine aw_iconst (0 : Int32) dL_score_19 (by decide) ?_
    refine aw_lv [0, 1] rfl ?_
    exact wkL_score_20 hl _ _ _ _ hf
  · rw [if_pos c3] at hf
    refine aw_bipush (6 : Int32) dL_score_14 (by decide) ?_
    refine aw_goto 20 dL_score_16 (by decide) ?_
    refine aw_lv [0, 1] rfl ?_
    exact wkL_score_20 hl _ _ _ _ hf
abbrev ML_grows : xM := (RL, cL_grows, 5, none, "grows")
abbrev rmL_grows : Room := { frames := 0, cells := 0, slots := 0, locals := 0 }
theorem ciL_grows : Cond.code yL_grows cL_grows 5 none ∈ wt ∧ Cond.initialized yL_grows.cls ∈ wt ∧ (yL_grows.cls ≠ "java/lang/invoke/MethodHandle" ∧ yL_grows.cls ≠ "java/lang/invoke/VarHandle" ∧ (parseMethodDescriptor yL_grows.desc).map (fun d => d.parameters.length) = some 3) := ⟨wl4 (i := 45) rfl rfl, wl1 (i := 0) rfl rfl, by decide +kernel, by decide +kernel, by decide +kernel⟩
def fL_grows_72 (L : MS) (a1 : Int32) (a3 : Int32) : Option (MS) :=
  (if xin (((3 : Int32) * a1) + (2 : Int32)) 24 = true then some (ms_I L 3 (((3 : Int32) * a1) + (2 : Int32)).toNatClampNeg a3) else none)
set_option maxHeartbeats 4000000 in
set_option maxRecDepth 100000 in
theorem wkL_grows_72 {l : Launch} {g : xG} {x0 : xV} {lo sz : Nat} (hl : l.stackTraces = false) {r : MS} (L : MS) (a1 : Int32) (a3 : Int32) (hf : fL_grows_72 L a1 a3 = some r) : AW ML_grows rmL_grows l g x0 (.inl none) (laE g lo sz r) 0 0 (laE g lo sz L) 72 [(0, .ref (lo + 3)), (1, .int a1), (3, .int a3)] [] := by
  rw [fL_grows_72] at hf
  refine aw_aload_n 0 dL_grows_72 rfl ?_
  refine aw_iconst (3 : Int32) dL_grows_73 (by decide) ?_
  refine aw_iload_n 1 dL_grows_74 rfl ?_
  refine aw_imul dL_grows_75 ?_
  refine aw_iconst (2 : Int32) dL_grows_76 (by decide) ?_
  refine aw_iadd dL_grows_77 ?_
  refine aw_iload_n 2 dL_grows_78 rfl ?_
  obtain ⟨hi1, hf⟩ := xifn hf
  refine la_iast 3 24 rfl (xin_v hi1) dL_grows_79 ?_
  cases hf
  exact aw_vret dL_grows_80 rfl rfl rfl ⟨Nat.le_of_ble_eq_true rfl, Nat.le_of_ble_eq_true rfl⟩
def fL_grows_69 (L : MS) (a1 : Int32) (s1 : Int32) (s2 : Int32) : Option (MS) :=
  (if xin s1 24 = true then fL_grows_72 (ms_I L 3 s1.toNatClampNeg s2) a1 (0 : Int32) else none)
set_option maxHeartbeats 4000000 in
set_option maxRecDepth 100000 in
theorem wkL_grows_69 {l : Launch} {g : xG} {x0 : xV} {lo sz : Nat} (hl : l.stackTraces = false) {r : MS} (L : MS) (a1 : Int32) (s1 : Int32) (s2 : Int32) (hf : fL_grows_69 L a1 s1 s2 = some r) : AW ML_grows rmL_grows l g x0 (.inl none) (laE g lo sz r) 0 0 (laE g lo sz L) 69 [(0, .ref (lo + 3)), (1, .int a1)] [.int s2, .int s1, .ref (lo + 3)] := by
  rw [fL_grows_69] at hf
  obtain ⟨hi1, hf⟩ := xifn hf
  refine la_iast 3 24 rfl (xin_v hi1) dL_grows_69 ?_
  refine aw_iconst (0 : Int32) dL_grows_70 (by decide) ?_
  refine aw_istore_n [(3, .int (0 : Int32)), (0, .ref (lo + 3)), (1, .int a1)] dL_grows_71 rfl (by decide) rfl ?_
  refine aw_lv [1, 2, 0] rfl ?_
  exact wkL_grows_72 hl _ _ _ hf
def fL_grows_21 (L : MS) (a1 : Int32) (a2 : Int32) (s0 : Int32) : Option (MS) :=
  (if (s0 * a2) = (3 : Int32) then (if xin (((3 : Int32) * a1) + (1 : Int32)) 24 = true then (if 0 ≤ ((m_I L 3 (((3 : Int32) * a1) + (1 : Int32)).toNatClampNeg) + a2) then (if ((m_I L 3 (((3 : Int32) * a1) + (1 : Int32)).toNatClampNeg) + a2) ≤ (20 : Int32) then fL_grows_69 L a1 (((3 : Int32) * a1) + (1 : Int32)) ((m_I L 3 (((3 : Int32) * a1) + (1 : Int32)).toNatClampNeg) + a2) else fL_grows_69 L a1 (((3 : Int32) * a1) + (1 : Int32)) (20 : Int32)) else fL_grows_69 L a1 (((3 : Int32) * a1) + (1 : Int32)) (0 : Int32)) else none) else fL_grows_72 L a1 s0)
set_option maxHeartbeats 4000000 in
set_option maxRecDepth 100000 in
theorem wkL_grows_21 {l : Launch} {g : xG} {x0 : xV} {lo sz : Nat} (hl : l.stackTraces = false) {r : MS} (L : MS) (a1 : Int32) (a2 : Int32) (s0 : Int32) (hf : fL_grows_21 L a1 a2 s0 = some r) : AW ML_grows rmL_grows l g x0 (.inl none) (laE g lo sz r) 0 0 (laE g lo sz L) 21 [(0, .ref (lo + 3)), (1, .int a1), (2, .int a2)] [.int s0] := by
  rw [fL_grows_21] at hf
  refine aw_istore_n [(3, .int s0), (0, .ref (lo + 3)), (1, .int a1), (2, .int a2)] dL_grows_21 rfl (by decide) rfl ?_
  refine aw_iload_n 0 dL_grows_22 rfl ?_
  refine aw_iload_n 3 dL_grows_23 rfl ?_
  refine aw_imul dL_grows_24 ?_
  refine aw_iconst (3 : Int32) dL_grows_25 (by decide) ?_
  refine aw_icmp_ne 72 dL_grows_26 (by decide) (fun c1 => ?_) (fun c1 => ?_)
  · rw [if_neg c1] at hf
    refine aw_lv [1, 2, 0] rfl ?_
    exact wkL_grows_72 hl _ _ _ hf
  · rw [if_pos c1] at hf
    refine aw_aload_n 1 dL_grows_29 rfl ?_
    refine aw_iconst (3 : Int32) dL_grows_30 (by decide) ?_
    refine aw_iload_n 2 dL_grows_31 rfl ?_
    refine aw_imul dL_grows_32 ?_
    refine aw_iconst (1 : Int32) dL_grows_33 (by decide) ?_
    refine aw_iadd dL_grows_34 ?_
    obtain ⟨hi2, hf⟩ := xifn hf
    refine la_iald 3 24 rfl (xin_v hi2) dL_grows_35 ?_
    refine aw_iload_n 3 dL_grows_36 rfl ?_
    refine aw_iadd dL_grows_37 ?_
    refine aw_istore [(4, .int ((m_I L 3 (((3 : Int32) * a1) + (1 : Int32)).toNatClampNeg) + a2)), (3, .int s0), (0, .ref (lo + 3)), (1, .int a1), (2, .int a2)] dL_grows_38 (by decide) rfl ?_
    refine aw_aload_n 2 dL_grows_40 rfl ?_
    refine aw_iconst (3 : Int32) dL_grows_41 (by decide) ?_
    refine aw_iload_n 3 dL_grows_42 rfl ?_
    refine aw_imul dL_grows_43 ?_
    refine aw_iconst (1 : Int32) dL_grows_44 (by decide) ?_
    refine aw_iadd dL_grows_45 ?_
    refine aw_iload 0 dL_grows_46 rfl ?_
    refine aw_if_ge 55 dL_grows_48 (by decide) (fun c3 => ?_) (fun c3 => ?_)
    · rw [if_pos c3] at hf
      refine aw_iload 0 dL_grows_55 rfl ?_
      refine aw_bipush (20 : Int32) dL_grows_57 (by decide) ?_
      refine aw_icmp_le 67 dL_grows_59 (by decide) (fun c4 => ?_) (fun c4 => ?_)
      · rw [if_pos c4] at hf
        refine aw_iload 0 dL_grows_67 rfl ?_
        refine aw_lv [2, 3] rfl ?_
        exact wkL_grows_69 hl _ _ _ _ hf
      · rw [if_neg c4] at hf
        refine aw_bipush (20 : Int32) dL_grows_62 (by decide) ?_
        refine aw_goto 69 dL_grows_64 (by decide) ?_
        refine aw_lv [2, 3] rfl ?_
        exact wkL_grows_69 hl _ _ _ _ hf
    · rw [if_neg c3] at hf
      refine aw_iconst (0 : Int32) dL_grows_51 (by decide) ?_
      refine aw_goto 69 dL_grows_52 (by decide) ?_
      refine aw_lv [2, 3] rfl ?_
      exact wkL_grows_69 hl _ _ _ _ hf
def fL_grows (L : MS) (a1 : Int32) (a2 : Int32) : Option (MS) :=
  (if xin (((3 : Int32) * a1) + (2 : Int32)) 24 = true then (if ((m_I L 3 (((3 : Int32) * a1) + (2 : Int32)).toNatClampNeg) * a2) ≤ 0 then fL_grows_21 L a1 a2 a2 else fL_grows_21 L a1 a2 ((m_I L 3 (((3 : Int32) * a1) + (2 : Int32)).toNatClampNeg) + a2)) else none)
set_option maxHeartbeats 4000000 in
set_option maxRecDepth 100000 in
theorem ctL_grows {l : Launch} {g : xG} {lo sz : Nat} (hl : l.stackTraces = false) {r : MS} (L : MS) (a1 : Int32) (a2 : Int32) (hf : fL_grows L a1 a2 = some r) : CT yL_grows ML_grows rmL_grows l g [.ref (lo + 3), .int a1, .int a2] (laE g lo sz L) (.inl none) (laE g lo sz r) := by
  rw [fL_grows] at hf
  refine CT.of (lv0 := [(0, .ref (lo + 3)), (1, .int a1), (2, .int a2)]) (by decide +kernel) rfl rfl (Nat.le_of_ble_eq_true rfl) rfl hl ?_
  refine aw_aload_n 0 dL_grows_0 rfl ?_
  refine aw_iconst (3 : Int32) dL_grows_1 (by decide) ?_
  refine aw_iload_n 1 dL_grows_2 rfl ?_
  refine aw_imul dL_grows_3 ?_
  refine aw_iconst (2 : Int32) dL_grows_4 (by decide) ?_
  refine aw_iadd dL_grows_5 ?_
  obtain ⟨hi1, hf⟩ := xifn hf
  refine la_iald 3 24 rfl (xin_v hi1) dL_grows_6 ?_
  refine aw_istore_n [(3, .int (m_I L 3 (((3 : Int32) * a1) + (2 : Int32)).toNatClampNeg)), (0, .ref (lo + 3)), (1, .int a1), (2, .int a2)] dL_grows_7 rfl (by decide) rfl ?_
  refine aw_iload_n 0 dL_grows_8 rfl ?_
  refine aw_iload_n 3 dL_grows_9 rfl ?_
  refine aw_imul dL_grows_10 ?_
  refine aw_if_le 20 dL_grows_11 (by decide) (fun c2 => ?_) (fun c2 => ?_)
  · rw [if_pos c2] at hf
    refine aw_iload_n 3 dL_grows_20 rfl ?_
    refine aw_lv [1, 2, 3] rfl ?_
    exact wkL_grows_21 hl _ _ _ _ hf
  · rw [if_neg c2] at hf
    refine aw_iload_n 0 dL_grows_14 rfl ?_
    refine aw_iload_n 3 dL_grows_15 rfl ?_
    refine aw_iadd dL_grows_16 ?_
    refine aw_goto 21 dL_grows_17 (by decide) ?_
    refine aw_lv [1, 2, 3] rfl ?_
    exact wkL_grows_21 hl _ _ _ _ hf
abbrev ML_finds : xM := (RL, cL_finds, 8, none, "finds")
abbrev rmL_finds : Room := { frames := 1, cells := 0, slots := 0, locals := 24 }
theorem ciL_finds : Cond.code yL_finds cL_finds 8 none ∈ wt ∧ Cond.initialized yL_finds.cls ∈ wt ∧ (yL_finds.cls ≠ "java/lang/invoke/MethodHandle" ∧ yL_finds.cls ≠ "java/lang/invoke/VarHandle" ∧ (parseMethodDescriptor yL_finds.desc).map (fun d => d.parameters.length) = some 5) := ⟨wl4 (i := 42) rfl rfl, wl1 (i := 0) rfl rfl, by decide +kernel, by decide +kernel, by decide +kernel⟩
def fL_finds_125 (k43 : MS → Int32 → Int32 → Option (MS)) (L : MS) (a4 : Int32) (a5 : Int32) : Option (MS) :=
  k43 L a4 (a5 + (1 : Int32))
set_option maxHeartbeats 4000000 in
set_option maxRecDepth 100000 in
theorem wkL_finds_125 {l : Launch} {g : xG} {x0 : xV} {lo sz : Nat} (hl : l.stackTraces = false) {r : MS} (k43 : MS → Int32 → Int32 → Option (MS)) (hk43 : ∀ (L : MS) (a4 : Int32) (a5 : Int32), k43 L a4 a5 = some r → AW ML_finds rmL_finds l g x0 (.inl none) (laE g lo sz r) 0 0 (laE g lo sz L) 43 [(0, .ref (lo + 3)), (1, .ref (lo + 4)), (2, .ref (lo + 6)), (4, .int a4), (5, .int a5)] []) (L : MS) (a4 : Int32) (a5 : Int32) (hf : fL_finds_125 k43 L a4 a5 = some r) : AW ML_finds rmL_finds l g x0 (.inl none) (laE g lo sz r) 0 0 (laE g lo sz L) 125 [(0, .ref (lo + 3)), (1, .ref (lo + 4)), (2, .ref (lo + 6)), (4, .int a4), (5, .int a5)] [] := by
  rw [fL_finds_125] at hf
  refine aw_iinc [(5, .int (a5 + (1 : Int32))), (0, .ref (lo + 3)), (1, .ref (lo + 4)), (2, .ref (lo + 6)), (4, .int a4)] 4 dL_finds_125 rfl rfl (by decide) rfl ?_
  refine aw_goto 43 dL_finds_128 (by decide) ?_
  refine aw_lv [1, 2, 3, 4, 0] rfl ?_
  exact hk43 _ _ _ hf
def fL_finds_87 (k43 : MS → Int32 → Int32 → Option (MS)) (L : MS) (a4 : Int32) (a5 : Int32) (a6 : Int32) (s0 : Int32) : Option (MS) :=
  (if xin ((16 : Int32) + a6) 64 = true then (fL_grows L ((m_I L 4 ((16 : Int32) + a6).toNatClampNeg) / (100 : Int32)) s0).bind fun q2 => (fL_grows q2 (((m_I q2 4 ((16 : Int32) + a6).toNatClampNeg) / (10 : Int32)) - ((m_I q2 4 ((16 : Int32) + a6).toNatClampNeg) / (10 : Int32)) / (10 : Int32) * (10 : Int32)) (-s0)).bind fun q3 => fL_finds_125 k43 q3 a4 a5 else none)
set_option maxHeartbeats 4000000 in
set_option maxRecDepth 100000 in
theorem wkL_finds_87 {l : Launch} {g : xG} {x0 : xV} {lo sz : Nat} (hl : l.stackTraces = false) {r : MS} (k43 : MS → Int32 → Int32 → Option (MS)) (hk43 : ∀ (L : MS) (a4 : Int32) (a5 : Int32), k43 L a4 a5 = some r → AW ML_finds rmL_finds l g x0 (.inl none) (laE g lo sz r) 0 0 (laE g lo sz L) 43 [(0, .ref (lo + 3)), (1, .ref (lo + 4)), (2, .ref (lo + 6)), (4, .int a4), (5, .int a5)] []) (L : MS) (a4 : Int32) (a5 : Int32) (a6 : Int32) (s0 : Int32) (hf : fL_finds_87 k43 L a4 a5 a6 s0 = some r) : AW ML_finds rmL_finds l g x0 (.inl none) (laE g lo sz r) 0 0 (laE g lo sz L) 87 [(0, .ref (lo + 3)), (1, .ref (lo + 4)), (2, .ref (lo + 6)), (4, .int a4), (5, .int a5), (6, .int a6)] [.int s0] := by
  rw [fL_finds_87] at hf
  refine aw_istore [(7, .int s0), (0, .ref (lo + 3)), (1, .ref (lo + 4)), (2, .ref (lo + 6)), (4, .int a4), (5, .int a5), (6, .int a6)] dL_finds_87 (by decide) rfl ?_
  refine aw_aload_n 1 dL_finds_89 rfl ?_
  refine aw_aload_n 2 dL_finds_90 rfl ?_
  refine aw_bipush (16 : Int32) dL_finds_91 (by decide) ?_
  refine aw_iload 6 dL_finds_93 rfl ?_
  refine aw_iadd dL_finds_95 ?_
  obtain ⟨hi1, hf⟩ := xifn hf
  refine la_iald 4 64 rfl (xin_v hi1) dL_finds_96 ?_
  refine aw_bipush (100 : Int32) dL_finds_97 (by decide) ?_
  refine aw_idiv dL_finds_99 (by decide) ?_
  refine aw_iload 0 dL_finds_100 rfl ?_
  obtain ⟨q2, hq2, hf⟩ := xbind hf
  refine aw_callS [.ref (lo + 3), .int ((m_I L 4 ((16 : Int32) + a6).toNatClampNeg) / (100 : Int32)), .int s0] 3 (ctL_grows hl _ _ _ hq2) ⟨wl4 (i := 43) rfl rfl, ciL_grows⟩ (wl4 (i := 44) rfl rfl) dL_finds_102 rfl rfl (Nat.le_of_ble_eq_true rfl) ⟨Nat.le_of_ble_eq_true rfl, Nat.le_of_ble_eq_true rfl⟩ ⟨Nat.le_of_ble_eq_true rfl, Nat.le_of_ble_eq_true rfl⟩ ?_
  refine aw_aload_n 1 dL_finds_105 rfl ?_
  refine aw_aload_n 2 dL_finds_106 rfl ?_
  refine aw_bipush (16 : Int32) dL_finds_107 (by decide) ?_
  refine aw_iload 6 dL_finds_109 rfl ?_
  refine aw_iadd dL_finds_111 ?_
  refine la_iald 4 64 rfl (xin_v hi1) dL_finds_112 ?_
  refine aw_bipush (10 : Int32) dL_finds_113 (by decide) ?_
  refine aw_idiv dL_finds_115 (by decide) ?_
  refine aw_bipush (10 : Int32) dL_finds_116 (by decide) ?_
  refine aw_irem dL_finds_118 (by decide) ?_
  refine aw_iload 0 dL_finds_119 rfl ?_
  refine aw_ineg dL_finds_121 ?_
  obtain ⟨q3, hq3, hf⟩ := xbind hf
  refine aw_callS [.ref (lo + 3), .int (((m_I q2 4 ((16 : Int32) + a6).toNatClampNeg) / (10 : Int32)) - ((m_I q2 4 ((16 : Int32) + a6).toNatClampNeg) / (10 : Int32)) / (10 : Int32) * (10 : Int32)), .int (-s0)] 3 (ctL_grows hl _ _ _ hq3) ⟨wl4 (i := 43) rfl rfl, ciL_grows⟩ (wl4 (i := 44) rfl rfl) dL_finds_122 rfl rfl (Nat.le_of_ble_eq_true rfl) ⟨Nat.le_of_ble_eq_true rfl, Nat.le_of_ble_eq_true rfl⟩ ⟨Nat.le_of_ble_eq_true rfl, Nat.le_of_ble_eq_true rfl⟩ ?_
  refine aw_lv [1, 2, 3, 4, 5] rfl ?_
  exact wkL_finds_125 hl _ hk43 _ _ _ hf
def fL_finds_43 : Nat → MS → Int32 → Int32 → Option (MS)
  | 0, _, _, _ => none
  | n + 1, L, a4, a5 =>
    (if a4 ≤ a5 then some L else (if xin ((32 : Int32) + a5) 48 = true then (if xin ((48 : Int32) + (m_I L 6 ((32 : Int32) + a5).toNatClampNeg)) 64 = true then (if ((m_I L 4 ((48 : Int32) + (m_I L 6 ((32 : Int32) + a5).toNatClampNeg)).toNatClampNeg) - (m_I L 4 ((48 : Int32) + (m_I L 6 ((32 : Int32) + a5).toNatClampNeg)).toNatClampNeg) / (2 : Int32) * (2 : Int32)) = 0 then (if xin ((32 : Int32) + (m_I L 6 ((32 : Int32) + a5).toNatClampNeg)) 64 = true then (if (m_I L 4 ((32 : Int32) + (m_I L 6 ((32 : Int32) + a5).toNatClampNeg)).toNatClampNeg) = (1 : Int32) then fL_finds_87 (fL_finds_43 n) L a4 a5 (m_I L 6 ((32 : Int32) + a5).toNatClampNeg) (1 : Int32) else fL_finds_87 (fL_finds_43 n) L a4 a5 (m_I L 6 ((32 : Int32) + a5).toNatClampNeg) (-1 : Int32)) else none) else fL_finds_125 (fL_finds_43 n) L a4 a5) else none) else none))
set_option maxHeartbeats 4000000 in
set_option maxRecDepth 100000 in
theorem wkL_finds_43 {l : Launch} {g : xG} {x0 : xV} {lo sz : Nat} (hl : l.stackTraces = false) {r : MS} : ∀ (n : Nat) (L : MS) (a4 : Int32) (a5 : Int32), fL_finds_43 n L a4 a5 = some r → AW ML_finds rmL_finds l g x0 (.inl none) (laE g lo sz r) 0 0 (laE g lo sz L) 43 [(0, .ref (lo + 3)), (1, .ref (lo + 4)), (2, .ref (lo + 6)), (4, .int a4), (5, .int a5)] [] := by
  intro n
  induction n with
  | zero => intro L a4 a5 hf; exact absurd hf (by simp [fL_finds_43])
  | succ n hk43 =>
    intro L a4 a5 hf
    rw [fL_finds_43] at hf
    refine aw_iload 4 dL_finds_43 rfl ?_
    refine aw_iload 3 dL_finds_45 rfl ?_
    refine aw_icmp_ge 131 dL_finds_47 (by decide) (fun c1 => ?_) (fun c1 => ?_)
    · rw [if_pos c1] at hf
      cases hf
      exact aw_vret dL_finds_131 rfl rfl rfl ⟨Nat.le_of_ble_eq_true rfl, Nat.le_of_ble_eq_true rfl⟩
    · rw [if_neg c1] at hf
      refine aw_aload_n 2 dL_finds_50 rfl ?_
      refine aw_bipush (32 : Int32) dL_finds_51 (by decide) ?_
      refine aw_iload 4 dL_finds_53 rfl ?_
      refine aw_iadd dL_finds_55 ?_
      obtain ⟨hi2, hf⟩ := xifn hf
      refine la_iald 6 48 rfl (xin_v hi2) dL_finds_56 ?_
      refine aw_istore [(6, .int (m_I L 6 ((32 : Int32) + a5).toNatClampNeg)), (0, .ref (lo + 3)), (1, .ref (lo + 4)), (2, .ref (lo + 6)), (4, .int a4), (5, .int a5)] dL_finds_57 (by decide) rfl ?_
      refine aw_aload_n 2 dL_finds_59 rfl ?_
      refine aw_bipush (48 : Int32) dL_finds_60 (by decide) ?_
      refine aw_iload 0 dL_finds_62 rfl ?_
      refine aw_iadd dL_finds_64 ?_
      obtain ⟨hi3, hf⟩ := xifn hf
      refine la_iald 4 64 rfl (xin_v hi3) dL_finds_65 ?_
      refine aw_iconst (2 : Int32) dL_finds_66 (by decide) ?_
      refine aw_irem dL_finds_67 (by decide) ?_
      refine aw_if_ne 125 dL_finds_68 (by decide) (fun c4 => ?_) (fun c4 => ?_)
      · rw [if_neg c4] at hf
        refine aw_lv [1, 2, 3, 4, 5] rfl ?_
        exact wkL_finds_125 hl _ hk43 _ _ _ hf
      · rw [if_pos c4] at hf
        refine aw_aload_n 2 dL_finds_71 rfl ?_
        refine aw_bipush (32 : Int32) dL_finds_72 (by decide) ?_
        refine aw_iload 0 dL_finds_74 rfl ?_
        refine aw_iadd dL_finds_76 ?_
        obtain ⟨hi5, hf⟩ := xifn hf
        refine la_iald 4 64 rfl (xin_v hi5) dL_finds_77 ?_
        refine aw_iconst (1 : Int32) dL_finds_78 (by decide) ?_
        refine aw_icmp_ne 86 dL_finds_79 (by decide) (fun c6 => ?_) (fun c6 => ?_)
        · rw [if_neg c6] at hf
          refine aw_iconst (-1 : Int32) dL_finds_86 (by decide) ?_
          refine aw_lv [1, 2, 3, 4, 5, 0] rfl ?_
          exact wkL_finds_87 hl _ hk43 _ _ _ _ _ hf
        · rw [if_pos c6] at hf
          refine aw_iconst (1 : Int32) dL_finds_82 (by decide) ?_
          refine aw_goto 87 dL_finds_83 (by decide) ?_
          refine aw_lv [1, 2, 3, 4, 5, 0] rfl ?_
          exact wkL_finds_87 hl _ hk43 _ _ _ _ _ hf
def fL_finds_3 : Nat → MS → Int32 → Int32 → Option (MS)
  | 0, _, _, _ => none
  | n + 1, L, a4, a5 =>
    (if (m_I L 7 (0 : Int32).toNatClampNeg) ≤ a5 then fL_finds_43 FU L a4 (0 : Int32) else (if xin ((3 : Int32) * a5) 24 = true then (if xin (((3 : Int32) * a5) + (1 : Int32)) 24 = true then (some (ms_I L 3 (((3 : Int32) * a5) + (1 : Int32)).toNatClampNeg (m_I L 3 ((3 : Int32) * a5).toNatClampNeg))).bind fun W4 => (if xin (((3 : Int32) * a5) + (2 : Int32)) 24 = true then (some (ms_I W4 3 (((3 : Int32) * a5) + (2 : Int32)).toNatClampNeg (0 : Int32))).bind fun W6 => fL_finds_3 n W6 a4 (a5 + (1 : Int32)) else none) else none) else none))
set_option maxHeartbeats 4000000 in
set_option maxRecDepth 100000 in
theorem wkL_finds_3 {l : Launch} {g : xG} {x0 : xV} {lo sz : Nat} (hl : l.stackTraces = false) {r : MS} : ∀ (n : Nat) (L : MS) (a4 : Int32) (a5 : Int32), fL_finds_3 n L a4 a5 = some r → AW ML_finds rmL_finds l g x0 (.inl none) (laE g lo sz r) 0 0 (laE g lo sz L) 3 [(0, .ref (lo + 3)), (1, .ref (lo + 4)), (2, .ref (lo + 6)), (3, .ref (lo + 7)), (4, .int a4), (5, .int a5)] [] := by
  intro n
  induction n with
  | zero => intro L a4 a5 hf; exact absurd hf (by simp [fL_finds_3])
  | succ n hk3 =>
    intro L a4 a5 hf
    rw [fL_finds_3] at hf
    refine aw_iload 5 dL_finds_3 rfl ?_
    refine aw_aload_n 3 dL_finds_5 rfl ?_
    refine aw_iconst (0 : Int32) dL_finds_6 (by decide) ?_
    refine la_iald 7 5 rfl (xin_v (by decide)) dL_finds_7 ?_
    refine aw_icmp_ge 40 dL_finds_8 (by decide) (fun c1 => ?_) (fun c1 => ?_)
    · rw [if_pos c1] at hf
      refine aw_iconst (0 : Int32) dL_finds_40 (by decide) ?_
      refine aw_istore [(5, .int (0 : Int32)), (0, .ref (lo + 3)), (1, .ref (lo + 4)), (2, .ref (lo + 6)), (3, .ref (lo + 7)), (4, .int a4)] dL_finds_41 (by decide) rfl ?_
      refine aw_lv [1, 2, 3, 5, 0] rfl ?_
      exact wkL_finds_43 hl _ _ _ _ hf
    · rw [if_neg c1] at hf
      refine aw_aload_n 0 dL_finds_11 rfl ?_
      refine aw_iconst (3 : Int32) dL_finds_12 (by decide) ?_
      refine aw_iload 5 dL_finds_13 rfl ?_
      refine aw_imul dL_finds_15 ?_
      refine aw_iconst (1 : Int32) dL_finds_16 (by decide) ?_
      refine aw_iadd dL_finds_17 ?_
      refine aw_aload_n 0 dL_finds_18 rfl ?_
      refine aw_iconst (3 : Int32) dL_finds_19 (by decide) ?_
      refine aw_iload 5 dL_finds_20 rfl ?_
      refine aw_imul dL_finds_22 ?_
      obtain ⟨hi2, hf⟩ := xifn hf
      refine la_iald 3 24 rfl (xin_v hi2) dL_finds_23 ?_
      obtain ⟨hi3, hf⟩ := xifn hf
      obtain ⟨W4, hW4, hf⟩ := xlet hf
      refine la_iast 3 24 rfl (xin_v hi3) dL_finds_24 ?_
      rw [hW4]
      refine aw_aload_n 0 dL_finds_25 rfl ?_
      refine aw_iconst (3 : Int32) dL_finds_26 (by decide) ?_
      refine aw_iload 5 dL_finds_27 rfl ?_
      refine aw_imul dL_finds_29 ?_
      refine aw_iconst (2 : Int32) dL_finds_30 (by decide) ?_
      refine aw_iadd dL_finds_31 ?_
      refine aw_iconst (0 : Int32) dL_finds_32 (by decide) ?_
      obtain ⟨hi5, hf⟩ := xifn hf
      obtain ⟨W6, hW6, hf⟩ := xlet hf
      refine la_iast 3 24 rfl (xin_v hi5) dL_finds_33 ?_
      rw [hW6]
      refine aw_iinc [(5, .int (a5 + (1 : Int32))), (0, .ref (lo + 3)), (1, .ref (lo + 4)), (2, .ref (lo + 6)), (3, .ref (lo + 7)), (4, .int a4)] 5 dL_finds_34 rfl rfl (by decide) rfl ?_
      refine aw_goto 3 dL_finds_37 (by decide) ?_
      refine aw_lv [1, 2, 3, 4, 5, 0] rfl ?_
      exact hk3 _ _ _ hf
def fL_finds (L : MS) (a4 : Int32) : Option (MS) :=
  fL_finds_3 FU L a4 (0 : Int32)
set_option maxHeartbeats 4000000 in
set_option maxRecDepth 100000 in
theorem ctL_finds {l : Launch} {g : xG} {lo sz : Nat} (hl : l.stackTraces = false) {r : MS} (L : MS) (a4 : Int32) (hf : fL_finds L a4 = some r) : CT yL_finds ML_finds rmL_finds l g [.ref (lo + 3), .ref (lo + 4), .ref (lo + 6), .ref (lo + 7), .int a4] (laE g lo sz L) (.inl none) (laE g lo sz r) := by
  rw [fL_finds] at hf
  refine CT.of (lv0 := [(0, .ref (lo + 3)), (1, .ref (lo + 4)), (2, .ref (lo + 6)), (3, .ref (lo + 7)), (4, .int a4)]) (by decide +kernel) rfl rfl (Nat.le_of_ble_eq_true rfl) rfl hl ?_
  refine aw_iconst (0 : Int32) dL_finds_0 (by decide) ?_
  refine aw_istore [(5, .int (0 : Int32)), (0, .ref (lo + 3)), (1, .ref (lo + 4)), (2, .ref (lo + 6)), (3, .ref (lo + 7)), (4, .int a4)] dL_finds_1 (by decide) rfl ?_
  refine aw_lv [1, 2, 3, 4, 5, 0] rfl ?_
  exact wkL_finds_3 hl _ _ _ _ hf
abbrev ML_told : xM := (RL, cL_told, 5, (some .int), "told")
abbrev rmL_told : Room := { frames := 0, cells := 0, slots := 0, locals := 0 }
theorem ciL_told : Cond.code yL_told cL_told 5 (some .int) ∈ wt ∧ Cond.initialized yL_told.cls ∈ wt ∧ (yL_told.cls ≠ "java/lang/invoke/MethodHandle" ∧ yL_told.cls ≠ "java/lang/invoke/VarHandle" ∧ (parseMethodDescriptor yL_told.desc).map (fun d => d.parameters.length) = some 3) := ⟨wl4 (i := 48) rfl rfl, wl1 (i := 0) rfl rfl, by decide +kernel, by decide +kernel, by decide +kernel⟩
def fL_told_40 (L : MS) (a1 : Int32) (a2 : Int32) (a3 : Int32) (s0 : Int32) : Option (Int32) :=
  (if 0 ≤ a3 then some ((((100 : Int32) * a1) + ((10 : Int32) * a2)) + s0) else some ((((100 : Int32) * a2) + ((10 : Int32) * a1)) + s0))
set_option maxHeartbeats 4000000 in
set_option maxRecDepth 100000 in
theorem wkL_told_40 {l : Launch} {g : xG} {x0 : xV} {lo sz : Nat} (hl : l.stackTraces = false) {r : Int32} (L : MS) (a1 : Int32) (a2 : Int32) (a3 : Int32) (s0 : Int32) (hf : fL_told_40 L a1 a2 a3 s0 = some r) : AW ML_told rmL_told l g x0 (.inl (some (.int r))) (laE g lo sz L) 0 0 (laE g lo sz L) 40 [(1, .int a1), (2, .int a2), (3, .int a3)] [.int s0] := by
  rw [fL_told_40] at hf
  refine aw_istore [(4, .int s0), (1, .int a1), (2, .int a2), (3, .int a3)] dL_told_40 (by decide) rfl ?_
  refine aw_iload_n 3 dL_told_42 rfl ?_
  refine aw_if_ge 61 dL_told_43 (by decide) (fun c1 => ?_) (fun c1 => ?_)
  · rw [if_pos c1] at hf
    refine aw_bipush (100 : Int32) dL_told_61 (by decide) ?_
    refine aw_iload_n 1 dL_told_63 rfl ?_
    refine aw_imul dL_told_64 ?_
    refine aw_bipush (10 : Int32) dL_told_65 (by decide) ?_
    refine aw_iload_n 2 dL_told_67 rfl ?_
    refine aw_imul dL_told_68 ?_
    refine aw_iadd dL_told_69 ?_
    refine aw_iload 0 dL_told_70 rfl ?_
    refine aw_iadd dL_told_72 ?_
    cases hf
    exact aw_iret dL_told_73 rfl rfl rfl ⟨Nat.le_of_ble_eq_true rfl, Nat.le_of_ble_eq_true rfl⟩
  · rw [if_neg c1] at hf
    refine aw_bipush (100 : Int32) dL_told_46 (by decide) ?_
    refine aw_iload_n 2 dL_told_48 rfl ?_
    refine aw_imul dL_told_49 ?_
    refine aw_bipush (10 : Int32) dL_told_50 (by decide) ?_
    refine aw_iload_n 1 dL_told_52 rfl ?_
    refine aw_imul dL_told_53 ?_
    refine aw_iadd dL_told_54 ?_
    refine aw_iload 0 dL_told_55 rfl ?_
    refine aw_iadd dL_told_57 ?_
    refine aw_goto 73 dL_told_58 (by decide) ?_
    cases hf
    exact aw_iret dL_told_73 rfl rfl rfl ⟨Nat.le_of_ble_eq_true rfl, Nat.le_of_ble_eq_true rfl⟩
def fL_told_26 (L : MS) (a1 : Int32) (a2 : Int32) (a3 : Int32) (s0 : Int32) : Option (Int32) :=
  (if s0 ≤ (4 : Int32) then fL_told_40 L a1 a2 a3 s0 else fL_told_40 L a1 a2 a3 (4 : Int32))
set_option maxHeartbeats 4000000 in
set_option maxRecDepth 100000 in
theorem wkL_told_26 {l : Launch} {g : xG} {x0 : xV} {lo sz : Nat} (hl : l.stackTraces = false) {r : Int32} (L : MS) (a1 : Int32) (a2 : Int32) (a3 : Int32) (s0 : Int32) (hf : fL_told_26 L a1 a2 a3 s0 = some r) : AW ML_told rmL_told l g x0 (.inl (some (.int r))) (laE g lo sz L) 0 0 (laE g lo sz L) 26 [(1, .int a1), (2, .int a2), (3, .int a3)] [.int s0] := by
  rw [fL_told_26] at hf
  refine aw_istore [(4, .int s0), (1, .int a1), (2, .int a2), (3, .int a3)] dL_told_26 (by decide) rfl ?_
  refine aw_iload 0 dL_told_28 rfl ?_
  refine aw_iconst (4 : Int32) dL_told_30 (by decide) ?_
  refine aw_icmp_le 38 dL_told_31 (by decide) (fun c1 => ?_) (fun c1 => ?_)
  · rw [if_pos c1] at hf
    refine aw_iload 0 dL_told_38 rfl ?_
    refine aw_lv [1, 2, 3] rfl ?_
    exact wkL_told_40 hl _ _ _ _ _ hf
  · rw [if_neg c1] at hf
    refine aw_iconst (4 : Int32) dL_told_34 (by decide) ?_
    refine aw_goto 40 dL_told_35 (by decide) ?_
    refine aw_lv [1, 2, 3] rfl ?_
    exact wkL_told_40 hl _ _ _ _ _ hf
def fL_told (L : MS) (a1 : Int32) (a2 : Int32) : Option (Int32) :=
  (if xin (((3 : Int32) * a2) + (1 : Int32)) 24 = true then (if xin (((3 : Int32) * a1) + (1 : Int32)) 24 = true then (if 0 ≤ ((m_I L 3 (((3 : Int32) * a2) + (1 : Int32)).toNatClampNeg) - (m_I L 3 (((3 : Int32) * a1) + (1 : Int32)).toNatClampNeg)) then fL_told_26 L a1 a2 ((m_I L 3 (((3 : Int32) * a2) + (1 : Int32)).toNatClampNeg) - (m_I L 3 (((3 : Int32) * a1) + (1 : Int32)).toNatClampNeg)) ((m_I L 3 (((3 : Int32) * a2) + (1 : Int32)).toNatClampNeg) - (m_I L 3 (((3 : Int32) * a1) + (1 : Int32)).toNatClampNeg)) else fL_told_26 L a1 a2 ((m_I L 3 (((3 : Int32) * a2) + (1 : Int32)).toNatClampNeg) - (m_I L 3 (((3 : Int32) * a1) + (1 : Int32)).toNatClampNeg)) (-((m_I L 3 (((3 : Int32) * a2) + (1 : Int32)).toNatClampNeg) - (m_I L 3 (((3 : Int32) * a1) + (1 : Int32)).toNatClampNeg)))) else none) else none)
set_option maxHeartbeats 4000000 in
set_option maxRecDepth 100000 in
theorem ctL_told {l : Launch} {g : xG} {lo sz : Nat} (hl : l.stackTraces = false) {r : Int32} (L : MS) (a1 : Int32) (a2 : Int32) (hf : fL_told L a1 a2 = some r) : CT yL_told ML_told rmL_told l g [.ref (lo + 3), .int a1, .int a2] (laE g lo sz L) (.inl (some (.int r))) (laE g lo sz L) := by
  rw [fL_told] at hf
  refine CT.of (lv0 := [(0, .ref (lo + 3)), (1, .int a1), (2, .int a2)]) (by decide +kernel) rfl rfl (Nat.le_of_ble_eq_true rfl) rfl hl ?_
  refine aw_aload_n 0 dL_told_0 rfl ?_
  refine aw_iconst (3 : Int32) dL_told_1 (by decide) ?_
  refine aw_iload_n 2 dL_told_2 rfl ?_
  refine aw_imul dL_told_3 ?_
  refine aw_iconst (1 : Int32) dL_told_4 (by decide) ?_
  refine aw_iadd dL_told_5 ?_
  obtain ⟨hi1, hf⟩ := xifn hf
  refine la_iald 3 24 rfl (xin_v hi1) dL_told_6 ?_
  refine aw_aload_n 0 dL_told_7 rfl ?_
  refine aw_iconst (3 : Int32) dL_told_8 (by decide) ?_
  refine aw_iload_n 1 dL_told_9 rfl ?_
  refine aw_imul dL_told_10 ?_
  refine aw_iconst (1 : Int32) dL_told_11 (by decide) ?_
  refine aw_iadd dL_told_12 ?_
  obtain ⟨hi2, hf⟩ := xifn hf
  refine la_iald 3 24 rfl (xin_v hi2) dL_told_13 ?_
  refine aw_isub dL_told_14 ?_
  refine aw_istore_n [(3, .int ((m_I L 3 (((3 : Int32) * a2) + (1 : Int32)).toNatClampNeg) - (m_I L 3 (((3 : Int32) * a1) + (1 : Int32)).toNatClampNeg))), (0, .ref (lo + 3)), (1, .int a1), (2, .int a2)] dL_told_15 rfl (by decide) rfl ?_
  refine aw_iload_n 0 dL_told_16 rfl ?_
  refine aw_if_ge 25 dL_told_17 (by decide) (fun c3 => ?_) (fun c3 => ?_)
  · rw [if_pos c3] at hf
    refine aw_iload_n 0 dL_told_25 rfl ?_
    refine aw_lv [2, 3, 0] rfl ?_
    exact wkL_told_26 hl _ _ _ _ _ hf
  · rw [if_neg c3] at hf
    refine aw_iload_n 0 dL_told_20 rfl ?_
    refine aw_ineg dL_told_21 ?_
    refine aw_goto 26 dL_told_22 (by decide) ?_
    refine aw_lv [2, 3, 0] rfl ?_
    exact wkL_told_26 hl _ _ _ _ _ hf
abbrev ML_due : xM := (RL, cL_due, 6, (some .int), "due")
abbrev rmL_due : Room := { frames := 2, cells := 0, slots := 0, locals := 51 }
theorem ciL_due : Cond.code yL_due cL_due 6 (some .int) ∈ wt ∧ Cond.initialized yL_due.cls ∈ wt ∧ (yL_due.cls ≠ "java/lang/invoke/MethodHandle" ∧ yL_due.cls ≠ "java/lang/invoke/VarHandle" ∧ (parseMethodDescriptor yL_due.desc).map (fun d => d.parameters.length) = some 5) := ⟨wl4 (i := 39) rfl rfl, wl1 (i := 0) rfl rfl, by decide +kernel, by decide +kernel, by decide +kernel⟩
def fL_due (L : MS) (a4 : Int32) : Option (Int32 × MS) :=
  (if xin ((48 : Int32) + a4) 64 = true then (fL_finds L ((m_I L 4 ((48 : Int32) + a4).toNatClampNeg) / (2 : Int32))).bind fun q2 => (if xin a4 64 = true then (fL_told q2 ((m_I q2 4 a4.toNatClampNeg) / (10 : Int32)) ((m_I q2 4 a4.toNatClampNeg) - (m_I q2 4 a4.toNatClampNeg) / (10 : Int32) * (10 : Int32))).bind fun q4 => (fL_finds q2 (m_I q2 7 (3 : Int32).toNatClampNeg)).bind fun q5 => some (q4, q5) else none) else none)
set_option maxHeartbeats 4000000 in
set_option maxRecDepth 100000 in
theorem ctL_due {l : Launch} {g : xG} {lo sz : Nat} (hl : l.stackTraces = false) {r : Int32 × MS} (L : MS) (a4 : Int32) (hf : fL_due L a4 = some r) : CT yL_due ML_due rmL_due l g [.ref (lo + 3), .ref (lo + 4), .ref (lo + 6), .ref (lo + 7), .int a4] (laE g lo sz L) (.inl (some (.int r.1))) (laE g lo sz r.2) := by
  rw [fL_due] at hf
  refine CT.of (lv0 := [(0, .ref (lo + 3)), (1, .ref (lo + 4)), (2, .ref (lo + 6)), (3, .ref (lo + 7)), (4, .int a4)]) (by decide +kernel) rfl rfl (Nat.le_of_ble_eq_true rfl) rfl hl ?_
  refine aw_aload_n 0 dL_due_0 rfl ?_
  refine aw_aload_n 1 dL_due_1 rfl ?_
  refine aw_aload_n 2 dL_due_2 rfl ?_
  refine aw_aload_n 3 dL_due_3 rfl ?_
  refine aw_aload_n 1 dL_due_4 rfl ?_
  refine aw_bipush (48 : Int32) dL_due_5 (by decide) ?_
  refine aw_iload 4 dL_due_7 rfl ?_
  refine aw_iadd dL_due_9 ?_
  obtain ⟨hi1, hf⟩ := xifn hf
  refine la_iald 4 64 rfl (xin_v hi1) dL_due_10 ?_
  refine aw_iconst (2 : Int32) dL_due_11 (by decide) ?_
  refine aw_idiv dL_due_12 (by decide) ?_
  obtain ⟨q2, hq2, hf⟩ := xbind hf
  refine aw_callS [.ref (lo + 3), .ref (lo + 4), .ref (lo + 6), .ref (lo + 7), .int ((m_I L 4 ((48 : Int32) + a4).toNatClampNeg) / (2 : Int32))] 5 (ctL_finds hl _ _ hq2) ⟨wl4 (i := 40) rfl rfl, ciL_finds⟩ (wl4 (i := 41) rfl rfl) dL_due_13 rfl rfl (Nat.le_of_ble_eq_true rfl) ⟨Nat.le_of_ble_eq_true rfl, Nat.le_of_ble_eq_true rfl⟩ ⟨Nat.le_of_ble_eq_true rfl, Nat.le_of_ble_eq_true rfl⟩ ?_
  refine aw_aload_n 0 dL_due_16 rfl ?_
  refine aw_aload_n 1 dL_due_17 rfl ?_
  refine aw_iload 4 dL_due_18 rfl ?_
  obtain ⟨hi3, hf⟩ := xifn hf
  refine la_iald 4 64 rfl (xin_v hi3) dL_due_20 ?_
  refine aw_bipush (10 : Int32) dL_due_21 (by decide) ?_
  refine aw_idiv dL_due_23 (by decide) ?_
  refine aw_aload_n 1 dL_due_24 rfl ?_
  refine aw_iload 4 dL_due_25 rfl ?_
  refine la_iald 4 64 rfl (xin_v hi3) dL_due_27 ?_
  refine aw_bipush (10 : Int32) dL_due_28 (by decide) ?_
  refine aw_irem dL_due_30 (by decide) ?_
  obtain ⟨q4, hq4, hf⟩ := xbind hf
  refine aw_callS [.ref (lo + 3), .int ((m_I q2 4 a4.toNatClampNeg) / (10 : Int32)), .int ((m_I q2 4 a4.toNatClampNeg) - (m_I q2 4 a4.toNatClampNeg) / (10 : Int32) * (10 : Int32))] 3 (ctL_told hl _ _ _ hq4) ⟨wl4 (i := 46) rfl rfl, ciL_told⟩ (wl4 (i := 47) rfl rfl) dL_due_31 rfl rfl (Nat.le_of_ble_eq_true rfl) ⟨Nat.le_of_ble_eq_true rfl, Nat.le_of_ble_eq_true rfl⟩ ⟨Nat.le_of_ble_eq_true rfl, Nat.le_of_ble_eq_true rfl⟩ ?_
  refine aw_istore [(5, .int q4), (0, .ref (lo + 3)), (1, .ref (lo + 4)), (2, .ref (lo + 6)), (3, .ref (lo + 7)), (4, .int a4)] dL_due_34 (by decide) rfl ?_
  refine aw_aload_n 1 dL_due_36 rfl ?_
  refine aw_aload_n 2 dL_due_37 rfl ?_
  refine aw_aload_n 3 dL_due_38 rfl ?_
  refine aw_aload_n 4 dL_due_39 rfl ?_
  refine aw_aload_n 4 dL_due_40 rfl ?_
  refine aw_iconst (3 : Int32) dL_due_41 (by decide) ?_
  refine la_iald 7 5 rfl (xin_v (by decide)) dL_due_42 ?_
  obtain ⟨q5, hq5, hf⟩ := xbind hf
  refine aw_callS [.ref (lo + 3), .ref (lo + 4), .ref (lo + 6), .ref (lo + 7), .int (m_I q2 7 (3 : Int32).toNatClampNeg)] 5 (ctL_finds hl _ _ hq5) ⟨wl4 (i := 40) rfl rfl, ciL_finds⟩ (wl4 (i := 41) rfl rfl) dL_due_43 rfl rfl (Nat.le_of_ble_eq_true rfl) ⟨Nat.le_of_ble_eq_true rfl, Nat.le_of_ble_eq_true rfl⟩ ⟨Nat.le_of_ble_eq_true rfl, Nat.le_of_ble_eq_true rfl⟩ ?_
  refine aw_iload 0 dL_due_46 rfl ?_
  cases hf
  exact aw_iret dL_due_48 rfl rfl rfl ⟨Nat.le_of_ble_eq_true rfl, Nat.le_of_ble_eq_true rfl⟩
abbrev ML_off : xM := (RL, cL_off, 6, (some .int), "off")
abbrev rmL_off : Room := { frames := 3, cells := 0, slots := 0, locals := 76 }
theorem ciL_off : Cond.code yL_off cL_off 6 (some .int) ∈ wt ∧ Cond.initialized yL_off.cls ∈ wt ∧ (yL_off.cls ≠ "java/lang/invoke/MethodHandle" ∧ yL_off.cls ≠ "java/lang/invoke/VarHandle" ∧ (parseMethodDescriptor yL_off.desc).map (fun d => d.parameters.length) = some 4) := ⟨wl4 (i := 104) rfl rfl, wl1 (i := 0) rfl rfl, by decide +kernel, by decide +kernel, by decide +kernel⟩
def fL_off_55 (k6 : MS → Int32 → Int32 → Option (Int32 × MS)) (L : MS) (a5 : Int32) (s0 : Int32) (s1 : Int32) : Option (Int32 × MS) :=
  k6 L (s0 ||| s1) (a5 + (1 : Int32))
set_option maxHeartbeats 4000000 in
set_option maxRecDepth 100000 in
theorem wkL_off_55 {l : Launch} {g : xG} {x0 : xV} {lo sz : Nat} (hl : l.stackTraces = false) {r : Int32 × MS} (k6 : MS → Int32 → Int32 → Option (Int32 × MS)) (hk6 : ∀ (L : MS) (a4 : Int32) (a5 : Int32), k6 L a4 a5 = some r → AW ML_off rmL_off l g x0 (.inl (some (.int r.1))) (laE g lo sz r.2) 0 0 (laE g lo sz L) 6 [(0, .ref (lo + 3)), (1, .ref (lo + 4)), (2, .ref (lo + 6)), (3, .ref (lo + 7)), (4, .int a4), (5, .int a5)] []) (L : MS) (a5 : Int32) (s0 : Int32) (s1 : Int32) (hf : fL_off_55 k6 L a5 s0 s1 = some r) : AW ML_off rmL_off l g x0 (.inl (some (.int r.1))) (laE g lo sz r.2) 0 0 (laE g lo sz L) 55 [(0, .ref (lo + 3)), (1, .ref (lo + 4)), (2, .ref (lo + 6)), (3, .ref (lo + 7)), (5, .int a5)] [.int s1, .int s0] := by
  rw [fL_off_55] at hf
  refine aw_ior dL_off_55 ?_
  refine aw_istore [(4, .int (s0 ||| s1)), (0, .ref (lo + 3)), (1, .ref (lo + 4)), (2, .ref (lo + 6)), (3, .ref (lo + 7)), (5, .int a5)] dL_off_56 (by decide) rfl ?_
  refine aw_iinc [(5, .int (a5 + (1 : Int32))), (4, .int (s0 ||| s1)), (0, .ref (lo + 3)), (1, .ref (lo + 4)), (2, .ref (lo + 6)), (3, .ref (lo + 7))] 5 dL_off_58 rfl rfl (by decide) rfl ?_
  refine aw_goto 6 dL_off_61 (by decide) ?_
  refine aw_lv [2, 3, 4, 5, 1, 0] rfl ?_
  exact hk6 _ _ _ hf
def fL_off_6 : Nat → MS → Int32 → Int32 → Option (Int32 × MS)
  | 0, _, _, _ => none
  | n + 1, L, a4, a5 =>
    (if (m_I L 7 (1 : Int32).toNatClampNeg) ≤ a5 then some (a4, L) else (if xin ((48 : Int32) + a5) 64 = true then (if ((m_I L 4 ((48 : Int32) + a5).toNatClampNeg) - (m_I L 4 ((48 : Int32) + a5).toNatClampNeg) / (2 : Int32) * (2 : Int32)) = 0 then (fL_due L a5).bind fun q4 => (if xin ((16 : Int32) + a5) 64 = true then (if q4.1 = (m_I q4.2 4 ((16 : Int32) + a5).toNatClampNeg) then fL_off_55 (fL_off_6 n) q4.2 a5 a4 (0 : Int32) else fL_off_55 (fL_off_6 n) q4.2 a5 a4 (x_ishl (1 : Int32) a5)) else none) else fL_off_55 (fL_off_6 n) L a5 a4 (0 : Int32)) else none))
set_option maxHeartbeats 4000000 in
set_option maxRecDepth 100000 in
theorem wkL_off_6 {l : Launch} {g : xG} {x0 : xV} {lo sz : Nat} (hl : l.stackTraces = false) {r : Int32 × MS} : ∀ (n : Nat) (L : MS) (a4 : Int32) (a5 : Int32), fL_off_6 n L a4 a5 = some r → AW ML_off rmL_off l g x0 (.inl (some (.int r.1))) (laE g lo sz r.2) 0 0 (laE g lo sz L) 6 [(0, .ref (lo + 3)), (1, .ref (lo + 4)), (2, .ref (lo + 6)), (3, .ref (lo + 7)), (4, .int a4), (5, .int a5)] [] := by
  intro n
  induction n with
  | zero => intro L a4 a5 hf; exact absurd hf (by simp [fL_off_6])
  | succ n hk6 =>
    intro L a4 a5 hf
    rw [fL_off_6] at hf
    refine aw_iload 5 dL_off_6 rfl ?_
    refine aw_aload_n 3 dL_off_8 rfl ?_
    refine aw_iconst (1 : Int32) dL_off_9 (by decide) ?_
    refine la_iald 7 5 rfl (xin_v (by decide)) dL_off_10 ?_
    refine aw_icmp_ge 64 dL_off_11 (by decide) (fun c1 => ?_) (fun c1 => ?_)
    · rw [if_pos c1] at hf
      refine aw_iload 4 dL_off_64 rfl ?_
      cases hf
      exact aw_iret dL_off_66 rfl rfl rfl ⟨Nat.le_of_ble_eq_true rfl, Nat.le_of_ble_eq_true rfl⟩
    · rw [if_neg c1] at hf
      refine aw_iload 4 dL_off_14 rfl ?_
      refine aw_aload_n 1 dL_off_16 rfl ?_
      refine aw_bipush (48 : Int32) dL_off_17 (by decide) ?_
      refine aw_iload 5 dL_off_19 rfl ?_
      refine aw_iadd dL_off_21 ?_
      obtain ⟨hi2, hf⟩ := xifn hf
      refine la_iald 4 64 rfl (xin_v hi2) dL_off_22 ?_
      refine aw_iconst (2 : Int32) dL_off_23 (by decide) ?_
      refine aw_irem dL_off_24 (by decide) ?_
      refine aw_if_ne 54 dL_off_25 (by decide) (fun c3 => ?_) (fun c3 => ?_)
      · rw [if_neg c3] at hf
        refine aw_iconst (0 : Int32) dL_off_54 (by decide) ?_
        refine aw_lv [0, 1, 2, 3, 5] rfl ?_
        exact wkL_off_55 hl _ hk6 _ _ _ _ hf
      · rw [if_pos c3] at hf
        refine aw_aload_n 0 dL_off_28 rfl ?_
        refine aw_aload_n 1 dL_off_29 rfl ?_
        refine aw_aload_n 2 dL_off_30 rfl ?_
        refine aw_aload_n 3 dL_off_31 rfl ?_
        refine aw_iload 5 dL_off_32 rfl ?_
        obtain ⟨q4, hq4, hf⟩ := xbind hf
        refine aw_callS [.ref (lo + 3), .ref (lo + 4), .ref (lo + 6), .ref (lo + 7), .int a5] 5 (ctL_due hl _ _ hq4) ⟨wl4 (i := 37) rfl rfl, ciL_due⟩ (wl4 (i := 38) rfl rfl) dL_off_34 rfl rfl (Nat.le_of_ble_eq_true rfl) ⟨Nat.le_of_ble_eq_true rfl, Nat.le_of_ble_eq_true rfl⟩ ⟨Nat.le_of_ble_eq_true rfl, Nat.le_of_ble_eq_true rfl⟩ ?_
        refine aw_aload_n 1 dL_off_37 rfl ?_
        refine aw_bipush (16 : Int32) dL_off_38 (by decide) ?_
        refine aw_iload 5 dL_off_40 rfl ?_
        refine aw_iadd dL_off_42 ?_
        obtain ⟨hi5, hf⟩ := xifn hf
        refine la_iald 4 64 rfl (xin_v hi5) dL_off_43 ?_
        refine aw_icmp_eq 54 dL_off_44 (by decide) (fun c6 => ?_) (fun c6 => ?_)
        · rw [if_pos c6] at hf
          refine aw_iconst (0 : Int32) dL_off_54 (by decide) ?_
          refine aw_lv [0, 1, 2, 3, 5] rfl ?_
          exact wkL_off_55 hl _ hk6 _ _ _ _ hf
        · rw [if_neg c6] at hf
          refine aw_iconst (1 : Int32) dL_off_47 (by decide) ?_
          refine aw_iload 5 dL_off_48 rfl ?_
          refine aw_ishl dL_off_50 ?_
          refine aw_goto 55 dL_off_51 (by decide) ?_
          refine aw_lv [0, 1, 2, 3, 5] rfl ?_
          exact wkL_off_55 hl _ hk6 _ _ _ _ hf
def fL_off (L : MS) : Option (Int32 × MS) :=
  fL_off_6 FU L (0 : Int32) (0 : Int32)
set_option maxHeartbeats 4000000 in
set_option maxRecDepth 100000 in
theorem ctL_off {l : Launch} {g : xG} {lo sz : Nat} (hl : l.stackTraces = false) {r : Int32 × MS} (L : MS) (hf : fL_off L = some r) : CT yL_off ML_off rmL_off l g [.ref (lo + 3), .ref (lo + 4), .ref (lo + 6), .ref (lo + 7)] (laE g lo sz L) (.inl (some (.int r.1))) (laE g lo sz r.2) := by
  rw [fL_off] at hf
  refine CT.of (lv0 := [(0, .ref (lo + 3)), (1, .ref (lo + 4)), (2, .ref (lo + 6)), (3, .ref (lo + 7))]) (by decide +kernel) rfl rfl (Nat.le_of_ble_eq_true rfl) rfl hl ?_
  refine aw_iconst (0 : Int32) dL_off_0 (by decide) ?_
  refine aw_istore [(4, .int (0 : Int32)), (0, .ref (lo + 3)), (1, .ref (lo + 4)), (2, .ref (lo + 6)), (3, .ref (lo + 7))] dL_off_1 (by decide) rfl ?_
  refine aw_iconst (0 : Int32) dL_off_3 (by decide) ?_
  refine aw_istore [(5, .int (0 : Int32)), (4, .int (0 : Int32)), (0, .ref (lo + 3)), (1, .ref (lo + 4)), (2, .ref (lo + 6)), (3, .ref (lo + 7))] dL_off_4 (by decide) rfl ?_
  refine aw_lv [2, 3, 4, 5, 1, 0] rfl ?_
  exact wkL_off_6 hl _ _ _ _ hf
abbrev ML_ends : xM := (RL, cL_ends, 6, none, "ends")
abbrev rmL_ends : Room := { frames := 2, cells := 0, slots := 0, locals := 51 }
theorem ciL_ends : Cond.code yL_ends cL_ends 6 none ∈ wt ∧ Cond.initialized yL_ends.cls ∈ wt ∧ (yL_ends.cls ≠ "java/lang/invoke/MethodHandle" ∧ yL_ends.cls ≠ "java/lang/invoke/VarHandle" ∧ (parseMethodDescriptor yL_ends.desc).map (fun d => d.parameters.length) = some 6) := ⟨wl4 (i := 95) rfl rfl, wl1 (i := 0) rfl rfl, by decide +kernel, by decide +kernel, by decide +kernel⟩
def fL_ends (L : MS) (a4 : Int32) (a5 : Int32) : Option (MS) :=
  (if xin ((32 : Int32) + a4) 64 = true then (if xin ((32 : Int32) + (m_I (ms_I L 4 ((32 : Int32) + a4).toNatClampNeg (a5 + (1 : Int32))) 7 (3 : Int32).toNatClampNeg)) 48 = true then (some (ms_I (ms_I L 4 ((32 : Int32) + a4).toNatClampNeg (a5 + (1 : Int32))) 6 ((32 : Int32) + (m_I (ms_I L 4 ((32 : Int32) + a4).toNatClampNeg (a5 + (1 : Int32))) 7 (3 : Int32).toNatClampNeg)).toNatClampNeg a4)).bind fun W3 => (some (ms_I W3 7 (3 : Int32).toNatClampNeg ((m_I W3 7 (3 : Int32).toNatClampNeg) + (1 : Int32)))).bind fun W4 => (fL_finds W4 (m_I W4 7 (3 : Int32).toNatClampNeg)).bind fun q5 => some q5 else none) else none)
set_option maxHeartbeats 4000000 in
set_option maxRecDepth 100000 in
theorem ctL_ends {l : Launch} {g : xG} {lo sz : Nat} (hl : l.stackTraces = false) {r : MS} (L : MS) (a4 : Int32) (a5 : Int32) (hf : fL_ends L a4 a5 = some r) : CT yL_ends ML_ends rmL_ends l g [.ref (lo + 3), .ref (lo + 4), .ref (lo + 6), .ref (lo + 7), .int a4, .int a5] (laE g lo sz L) (.inl none) (laE g lo sz r) := by
  rw [fL_ends] at hf
  refine CT.of (lv0 := [(0, .ref (lo + 3)), (1, .ref (lo + 4)), (2, .ref (lo + 6)), (3, .ref (lo + 7)), (4, .int a4), (5, .int a5)]) (by decide +kernel) rfl rfl (Nat.le_of_ble_eq_true rfl) rfl hl ?_
  refine aw_aload_n 1 dL_ends_0 rfl ?_
  refine aw_bipush (32 : Int32) dL_ends_1 (by decide) ?_
  refine aw_iload 4 dL_ends_3 rfl ?_
  refine aw_iadd dL_ends_5 ?_
  refine aw_iload 5 dL_ends_6 rfl ?_
  refine aw_iconst (1 : Int32) dL_ends_8 (by decide) ?_
  refine aw_iadd dL_ends_9 ?_
  obtain ⟨hi1, hf⟩ := xifn hf
  refine la_iast 4 64 rfl (xin_v hi1) dL_ends_10 ?_
  refine aw_aload_n 2 dL_ends_11 rfl ?_
  refine aw_bipush (32 : Int32) dL_ends_12 (by decide) ?_
  refine aw_aload_n 3 dL_ends_14 rfl ?_
  refine aw_iconst (3 : Int32) dL_ends_15 (by decide) ?_
  refine la_iald 7 5 rfl (xin_v (by decide)) dL_ends_16 ?_
  refine aw_iadd dL_ends_17 ?_
  refine aw_iload 4 dL_ends_18 rfl ?_
  obtain ⟨hi2, hf⟩ := xifn hf
  obtain ⟨W3, hW3, hf⟩ := xlet hf
  refine la_iast 6 48 rfl (xin_v hi2) dL_ends_20 ?_
  rw [hW3]
  refine aw_aload_n 3 dL_ends_21 rfl ?_
  refine aw_iconst (3 : Int32) dL_ends_22 (by decide) ?_
  refine aw_dup2 dL_ends_23 rfl rfl ?_
  refine la_iald 7 5 rfl (xin_v (by decide)) dL_ends_24 ?_
  refine aw_iconst (1 : Int32) dL_ends_25 (by decide) ?_
  refine aw_iadd dL_ends_26 ?_
  obtain ⟨W4, hW4, hf⟩ := xlet hf
  refine la_iast 7 5 rfl (xin_v (by decide)) dL_ends_27 ?_
  rw [hW4]
  refine aw_aload_n 0 dL_ends_28 rfl ?_
  refine aw_aload_n 1 dL_ends_29 rfl ?_
  refine aw_aload_n 2 dL_ends_30 rfl ?_
  refine aw_aload_n 3 dL_ends_31 rfl ?_
  refine aw_aload_n 3 dL_ends_32 rfl ?_
  refine aw_iconst (3 : Int32) dL_ends_33 (by decide) ?_
  refine la_iald 7 5 rfl (xin_v (by decide)) dL_ends_34 ?_
  obtain ⟨q5, hq5, hf⟩ := xbind hf
  refine aw_callS [.ref (lo + 3), .ref (lo + 4), .ref (lo + 6), .ref (lo + 7), .int (m_I W4 7 (3 : Int32).toNatClampNeg)] 5 (ctL_finds hl _ _ hq5) ⟨wl4 (i := 40) rfl rfl, ciL_finds⟩ (wl4 (i := 41) rfl rfl) dL_ends_35 rfl rfl (Nat.le_of_ble_eq_true rfl) ⟨Nat.le_of_ble_eq_true rfl, Nat.le_of_ble_eq_true rfl⟩ ⟨Nat.le_of_ble_eq_true rfl, Nat.le_of_ble_eq_true rfl⟩ ?_
  cases hf
  exact aw_vret dL_ends_38 rfl rfl rfl ⟨Nat.le_of_ble_eq_true rfl, Nat.le_of_ble_eq_true rfl⟩
abbrev ML_runsOut : xM := (RL, cL_runsOut, 8, (some .boolean), "runsOut")
abbrev rmL_runsOut : Room := { frames := 0, cells := 0, slots := 0, locals := 0 }
theorem ciL_runsOut : Cond.code yL_runsOut cL_runsOut 8 (some .boolean) ∈ wt ∧ Cond.initialized yL_runsOut.cls ∈ wt ∧ (yL_runsOut.cls ≠ "java/lang/invoke/MethodHandle" ∧ yL_runsOut.cls ≠ "java/lang/invoke/VarHandle" ∧ (parseMethodDescriptor yL_runsOut.desc).map (fun d => d.parameters.length) = some 4) := ⟨wl4 (i := 92) rfl rfl, wl1 (i := 0) rfl rfl, by decide +kernel, by decide +kernel, by decide +kernel⟩
def fL_runsOut_120 (L : MS) (a6 : Int32) (a7 : Int32) (s1 : Int32) (s2 : Int32) (s3 : Int32) : Option (Bool × MS) :=
  (if xin s1 64 = true then (if a6 = a7 then some (true, (ms_I L 5 s1.toNatClampNeg (s2 - s3))) else some (false, (ms_I L 5 s1.toNatClampNeg (s2 - s3)))) else none)
set_option maxHeartbeats 4000000 in
set_option maxRecDepth 100000 in
theorem wkL_runsOut_120 {l : Launch} {g : xG} {x0 : xV} {lo sz : Nat} (hl : l.stackTraces = false) {r : Bool × MS} (L : MS) (a6 : Int32) (a7 : Int32) (s1 : Int32) (s2 : Int32) (s3 : Int32) (hf : fL_runsOut_120 L a6 a7 s1 s2 s3 = some r) : AW ML_runsOut rmL_runsOut l g x0 (.inl (some (.int (bi r.1)))) (laE g lo sz r.2) 0 0 (laE g lo sz L) 120 [(6, .int a6), (7, .int a7)] [.int s3, .int s2, .int s1, .ref (lo + 5)] := by
  rw [fL_runsOut_120] at hf
  refine aw_isub dL_runsOut_120 ?_
  obtain ⟨hi1, hf⟩ := xifn hf
  refine la_iast 5 64 rfl (xin_v hi1) dL_runsOut_121 ?_
  refine aw_iload 0 dL_runsOut_122 rfl ?_
  refine aw_iload 1 dL_runsOut_124 rfl ?_
  refine aw_icmp_ne 133 dL_runsOut_126 (by decide) (fun c2 => ?_) (fun c2 => ?_)
  · rw [if_neg c2] at hf
    refine aw_iconst (0 : Int32) dL_runsOut_133 (by decide) ?_
    cases hf
    exact aw_zret dL_runsOut_134 rfl rfl rfl rfl ⟨Nat.le_of_ble_eq_true rfl, Nat.le_of_ble_eq_true rfl⟩
  · rw [if_pos c2] at hf
    refine aw_iconst (1 : Int32) dL_runsOut_129 (by decide) ?_
    refine aw_goto 134 dL_runsOut_130 (by decide) ?_
    cases hf
    exact aw_zret dL_runsOut_134 rfl rfl rfl rfl ⟨Nat.le_of_ble_eq_true rfl, Nat.le_of_ble_eq_true rfl⟩
def fL_runsOut_97 (L : MS) (a1 : Int32) (a2 : Int32) (a6 : Int32) (s0 : Int32) : Option (Bool × MS) :=
  (if xin ((32 : Int32) + a1) 64 = true then (if a2 = 0 then fL_runsOut_120 L a6 s0 ((32 : Int32) + a1) (m_I L 5 ((32 : Int32) + a1).toNatClampNeg) ((10 : Int32) * s0) else fL_runsOut_120 L a6 s0 ((32 : Int32) + a1) (m_I L 5 ((32 : Int32) + a1).toNatClampNeg) s0) else none)
set_option maxHeartbeats 4000000 in
set_option maxRecDepth 100000 in
theorem wkL_runsOut_97 {l : Launch} {g : xG} {x0 : xV} {lo sz : Nat} (hl : l.stackTraces = false) {r : Bool × MS} (L : MS) (a1 : Int32) (a2 : Int32) (a6 : Int32) (s0 : Int32) (hf : fL_runsOut_97 L a1 a2 a6 s0 = some r) : AW ML_runsOut rmL_runsOut l g x0 (.inl (some (.int (bi r.1)))) (laE g lo sz r.2) 0 0 (laE g lo sz L) 97 [(0, .ref (lo + 5)), (1, .int a1), (2, .int a2), (6, .int a6)] [.int s0] := by
  rw [fL_runsOut_97] at hf
  refine aw_istore [(7, .int s0), (0, .ref (lo + 5)), (1, .int a1), (2, .int a2), (6, .int a6)] dL_runsOut_97 (by decide) rfl ?_
  refine aw_aload_n 1 dL_runsOut_99 rfl ?_
  refine aw_bipush (32 : Int32) dL_runsOut_100 (by decide) ?_
  refine aw_iload_n 2 dL_runsOut_102 rfl ?_
  refine aw_iadd dL_runsOut_103 ?_
  refine aw_dup2 dL_runsOut_104 rfl rfl ?_
  obtain ⟨hi1, hf⟩ := xifn hf
  refine la_iald 5 64 rfl (xin_v hi1) dL_runsOut_105 ?_
  refine aw_iload_n 3 dL_runsOut_106 rfl ?_
  refine aw_if_ne 118 dL_runsOut_107 (by decide) (fun c2 => ?_) (fun c2 => ?_)
  · rw [if_neg c2] at hf
    refine aw_iload 0 dL_runsOut_118 rfl ?_
    refine aw_lv [4, 0] rfl ?_
    exact wkL_runsOut_120 hl _ _ _ _ _ _ hf
  · rw [if_pos c2] at hf
    refine aw_bipush (10 : Int32) dL_runsOut_110 (by decide) ?_
    refine aw_iload 0 dL_runsOut_112 rfl ?_
    refine aw_imul dL_runsOut_114 ?_
    refine aw_goto 120 dL_runsOut_115 (by decide) ?_
    refine aw_lv [4, 0] rfl ?_
    exact wkL_runsOut_120 hl _ _ _ _ _ _ hf
def fL_runsOut_68 (L : MS) (a1 : Int32) (a2 : Int32) (a5 : Int32) (s0 : Int32) : Option (Bool × MS) :=
  (if xin ((48 : Int32) + a1) 64 = true then (if (m_I L 5 ((48 : Int32) + a1).toNatClampNeg) = 0 then none else (if ((a5 - (1 : Int32)) / (m_I L 5 ((48 : Int32) + a1).toNatClampNeg)) ≤ s0 then fL_runsOut_97 L a1 a2 s0 ((a5 - (1 : Int32)) / (m_I L 5 ((48 : Int32) + a1).toNatClampNeg)) else fL_runsOut_97 L a1 a2 s0 s0)) else none)
set_option maxHeartbeats 4000000 in
set_option maxRecDepth 100000 in
theorem wkL_runsOut_68 {l : Launch} {g : xG} {x0 : xV} {lo sz : Nat} (hl : l.stackTraces = false) {r : Bool × MS} (L : MS) (a1 : Int32) (a2 : Int32) (a5 : Int32) (s0 : Int32) (hf : fL_runsOut_68 L a1 a2 a5 s0 = some r) : AW ML_runsOut rmL_runsOut l g x0 (.inl (some (.int (bi r.1)))) (laE g lo sz r.2) 0 0 (laE g lo sz L) 68 [(0, .ref (lo + 5)), (1, .int a1), (2, .int a2), (5, .int a5)] [.int s0] := by
  rw [fL_runsOut_68] at hf
  refine aw_istore [(6, .int s0), (0, .ref (lo + 5)), (1, .int a1), (2, .int a2), (5, .int a5)] dL_runsOut_68 (by decide) rfl ?_
  refine aw_iload 4 dL_runsOut_70 rfl ?_
  refine aw_iconst (1 : Int32) dL_runsOut_72 (by decide) ?_
  refine aw_isub dL_runsOut_73 ?_
  refine aw_aload_n 1 dL_runsOut_74 rfl ?_
  refine aw_bipush (48 : Int32) dL_runsOut_75 (by decide) ?_
  refine aw_iload_n 2 dL_runsOut_77 rfl ?_
  refine aw_iadd dL_runsOut_78 ?_
  obtain ⟨hi1, hf⟩ := xifn hf
  refine la_iald 5 64 rfl (xin_v hi1) dL_runsOut_79 ?_
  obtain ⟨hz2, hf⟩ := xifz hf
  refine aw_idiv dL_runsOut_80 hz2 ?_
  refine aw_istore [(7, .int ((a5 - (1 : Int32)) / (m_I L 5 ((48 : Int32) + a1).toNatClampNeg))), (6, .int s0), (0, .ref (lo + 5)), (1, .int a1), (2, .int a2), (5, .int a5)] dL_runsOut_81 (by decide) rfl ?_
  refine aw_iload 0 dL_runsOut_83 rfl ?_
  refine aw_iload 1 dL_runsOut_85 rfl ?_
  refine aw_icmp_le 95 dL_runsOut_87 (by decide) (fun c3 => ?_) (fun c3 => ?_)
  · rw [if_pos c3] at hf
    refine aw_iload 0 dL_runsOut_95 rfl ?_
    refine aw_lv [2, 3, 4, 1] rfl ?_
    exact wkL_runsOut_97 hl _ _ _ _ _ hf
  · rw [if_neg c3] at hf
    refine aw_iload 1 dL_runsOut_90 rfl ?_
    refine aw_goto 97 dL_runsOut_92 (by decide) ?_
    refine aw_lv [2, 3, 4, 1] rfl ?_
    exact wkL_runsOut_97 hl _ _ _ _ _ hf
def fL_runsOut_34 (L : MS) (a1 : Int32) (a2 : Int32) (a5 : Int32) (s1 : Int32) (s2 : Int32) : Option (Bool × MS) :=
  (if xin s1 64 = true then (if (1 : Int32) ≤ a5 then (if a2 = 0 then (if xin ((32 : Int32) + a1) 64 = true then fL_runsOut_68 (ms_I L 5 s1.toNatClampNeg s2) a1 a2 a5 ((m_I (ms_I L 5 s1.toNatClampNeg s2) 5 ((32 : Int32) + a1).toNatClampNeg) / (10 : Int32)) else none) else (if xin ((32 : Int32) + a1) 64 = true then fL_runsOut_68 (ms_I L 5 s1.toNatClampNeg s2) a1 a2 a5 ((m_I (ms_I L 5 s1.toNatClampNeg s2) 5 ((32 : Int32) + a1).toNatClampNeg) - (m_I (ms_I L 5 s1.toNatClampNeg s2) 5 ((32 : Int32) + a1).toNatClampNeg) / (10 : Int32) * (10 : Int32)) else none)) else some (false, (ms_I L 5 s1.toNatClampNeg s2))) else none)
set_option maxHeartbeats 4000000 in
set_option maxRecDepth 100000 in
theorem wkL_runsOut_34 {l : Launch} {g : xG} {x0 : xV} {lo sz : Nat} (hl : l.stackTraces = false) {r : Bool × MS} (L : MS) (a1 : Int32) (a2 : Int32) (a5 : Int32) (s1 : Int32) (s2 : Int32) (hf : fL_runsOut_34 L a1 a2 a5 s1 s2 = some r) : AW ML_runsOut rmL_runsOut l g x0 (.inl (some (.int (bi r.1)))) (laE g lo sz r.2) 0 0 (laE g lo sz L) 34 [(0, .ref (lo + 5)), (1, .int a1), (2, .int a2), (5, .int a5)] [.int s2, .int s1, .ref (lo + 5)] := by
  rw [fL_runsOut_34] at hf
  obtain ⟨hi1, hf⟩ := xifn hf
  refine la_iast 5 64 rfl (xin_v hi1) dL_runsOut_34 ?_
  refine aw_iload 3 dL_runsOut_35 rfl ?_
  refine aw_iconst (1 : Int32) dL_runsOut_37 (by decide) ?_
  refine aw_icmp_ge 43 dL_runsOut_38 (by decide) (fun c2 => ?_) (fun c2 => ?_)
  · rw [if_pos c2] at hf
    refine aw_iload_n 2 dL_runsOut_43 rfl ?_
    refine aw_if_ne 59 dL_runsOut_44 (by decide) (fun c3 => ?_) (fun c3 => ?_)
    · rw [if_neg c3] at hf
      refine aw_aload_n 0 dL_runsOut_59 rfl ?_
      refine aw_bipush (32 : Int32) dL_runsOut_60 (by decide) ?_
      refine aw_iload_n 1 dL_runsOut_62 rfl ?_
      refine aw_iadd dL_runsOut_63 ?_
      obtain ⟨hi4, hf⟩ := xifn hf
      refine la_iald 5 64 rfl (xin_v hi4) dL_runsOut_64 ?_
      refine aw_bipush (10 : Int32) dL_runsOut_65 (by decide) ?_
      refine aw_irem dL_runsOut_67 (by decide) ?_
      refine aw_lv [0, 1, 2, 3] rfl ?_
      exact wkL_runsOut_68 hl _ _ _ _ _ hf
    · rw [if_pos c3] at hf
      refine aw_aload_n 0 dL_runsOut_47 rfl ?_
      refine aw_bipush (32 : Int32) dL_runsOut_48 (by decide) ?_
      refine aw_iload_n 1 dL_runsOut_50 rfl ?_
      refine aw_iadd dL_runsOut_51 ?_
      obtain ⟨hi5, hf⟩ := xifn hf
      refine la_iald 5 64 rfl (xin_v hi5) dL_runsOut_52 ?_
      refine aw_bipush (10 : Int32) dL_runsOut_53 (by decide) ?_
      refine aw_idiv dL_runsOut_55 (by decide) ?_
      refine aw_goto 68 dL_runsOut_56 (by decide) ?_
      refine aw_lv [0, 1, 2, 3] rfl ?_
      exact wkL_runsOut_68 hl _ _ _ _ _ hf
  · rw [if_neg c2] at hf
    refine aw_iconst (0 : Int32) dL_runsOut_41 (by decide) ?_
    cases hf
    exact aw_zret dL_runsOut_42 rfl rfl rfl rfl ⟨Nat.le_of_ble_eq_true rfl, Nat.le_of_ble_eq_true rfl⟩
def fL_runsOut (L : MS) (a1 : Int32) (a2 : Int32) (a3 : Int32) : Option (Bool × MS) :=
  (if xin (((16 : Int32) * a2) + a1) 64 = true then (if (a3 - (m_I L 5 (((16 : Int32) * a2) + a1).toNatClampNeg)) ≤ 0 then fL_runsOut_34 L a1 a2 (a3 - (m_I L 5 (((16 : Int32) * a2) + a1).toNatClampNeg)) (((16 : Int32) * a2) + a1) ((m_I L 5 (((16 : Int32) * a2) + a1).toNatClampNeg) - a3) else fL_runsOut_34 L a1 a2 (a3 - (m_I L 5 (((16 : Int32) * a2) + a1).toNatClampNeg)) (((16 : Int32) * a2) + a1) (0 : Int32)) else none)
set_option maxHeartbeats 4000000 in
set_option maxRecDepth 100000 in
theorem ctL_runsOut {l : Launch} {g : xG} {lo sz : Nat} (hl : l.stackTraces = false) {r : Bool × MS} (L : MS) (a1 : Int32) (a2 : Int32) (a3 : Int32) (hf : fL_runsOut L a1 a2 a3 = some r) : CT yL_runsOut ML_runsOut rmL_runsOut l g [.ref (lo + 5), .int a1, .int a2, .int a3] (laE g lo sz L) (.inl (some (.int (bi r.1)))) (laE g lo sz r.2) := by
  rw [fL_runsOut] at hf
  refine CT.of (lv0 := [(0, .ref (lo + 5)), (1, .int a1), (2, .int a2), (3, .int a3)]) (by decide +kernel) rfl rfl (Nat.le_of_ble_eq_true rfl) rfl hl ?_
  refine aw_bipush (16 : Int32) dL_runsOut_0 (by decide) ?_
  refine aw_iload_n 2 dL_runsOut_2 rfl ?_
  refine aw_imul dL_runsOut_3 ?_
  refine aw_iload_n 1 dL_runsOut_4 rfl ?_
  refine aw_iadd dL_runsOut_5 ?_
  refine aw_istore [(4, .int (((16 : Int32) * a2) + a1)), (0, .ref (lo + 5)), (1, .int a1), (2, .int a2), (3, .int a3)] dL_runsOut_6 (by decide) rfl ?_
  refine aw_iload_n 4 dL_runsOut_8 rfl ?_
  refine aw_aload_n 1 dL_runsOut_9 rfl ?_
  refine aw_iload 0 dL_runsOut_10 rfl ?_
  obtain ⟨hi1, hf⟩ := xifn hf
  refine la_iald 5 64 rfl (xin_v hi1) dL_runsOut_12 ?_
  refine aw_isub dL_runsOut_13 ?_
  refine aw_istore [(5, .int (a3 - (m_I L 5 (((16 : Int32) * a2) + a1).toNatClampNeg))), (4, .int (((16 : Int32) * a2) + a1)), (0, .ref (lo + 5)), (1, .int a1), (2, .int a2), (3, .int a3)] dL_runsOut_14 (by decide) rfl ?_
  refine aw_aload_n 2 dL_runsOut_16 rfl ?_
  refine aw_iload 1 dL_runsOut_17 rfl ?_
  refine aw_iload 0 dL_runsOut_19 rfl ?_
  refine aw_if_le 28 dL_runsOut_21 (by decide) (fun c2 => ?_) (fun c2 => ?_)
  · rw [if_pos c2] at hf
    refine aw_aload_n 2 dL_runsOut_28 rfl ?_
    refine aw_iload 1 dL_runsOut_29 rfl ?_
    refine la_iald 5 64 rfl (xin_v hi1) dL_runsOut_31 ?_
    refine aw_iload_n 5 dL_runsOut_32 rfl ?_
    refine aw_isub dL_runsOut_33 ?_
    refine aw_lv [2, 3, 4, 0] rfl ?_
    exact wkL_runsOut_34 hl _ _ _ _ _ _ hf
  · rw [if_neg c2] at hf
    refine aw_iconst (0 : Int32) dL_runsOut_24 (by decide) ?_
    refine aw_goto 34 dL_runsOut_25 (by decide) ?_
    refine aw_lv [2, 3, 4, 0] rfl ?_
    exact wkL_runsOut_34 hl _ _ _ _ _ _ hf
