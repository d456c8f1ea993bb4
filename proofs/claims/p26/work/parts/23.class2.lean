abbrev MX2_offSet : xM := (RX2, cX2_offSet, 4, (some .int), "offSet")
abbrev rmX2_offSet : Room := { frames := 5, cells := 0, slots := 0, locals := 117 }
theorem ciX2_offSet : Cond.code yX2_offSet cX2_offSet 4 (some .int) ∈ wt ∧ Cond.initialized yX2_offSet.cls ∈ wt ∧ (yX2_offSet.cls ≠ "java/lang/invoke/MethodHandle" ∧ yX2_offSet.cls ≠ "java/lang/invoke/VarHandle" ∧ (parseMethodDescriptor yX2_offSet.desc).map (fun d => d.parameters.length) = some 0) := ⟨wl3 (i := 38) rfl rfl, wl1 (i := 2) rfl rfl, by decide +kernel, by decide +kernel, by decide +kernel⟩
def fX2_offSet_38 (k4 : TH → Nat → Int32 → Int32 → Option (Int32)) (h : TH) (t : Nat) (a1 : Int32) (a2 : Int32) : Option (Int32) :=
  k4 h t a1 (a2 + (1 : Int32))
set_option maxHeartbeats 4000000 in
set_option maxRecDepth 100000 in
theorem wkX2_offSet_38 {l : Launch} {g : xG} {x0 : xV} (hl : l.stackTraces = false) {r : Int32} (k4 : TH → Nat → Int32 → Int32 → Option (Int32)) (hk4 : ∀ (h : TH) (t : Nat) (a1 : Int32) (a2 : Int32), k4 h t a1 a2 = some r → AW MX2_offSet rmX2_offSet l g x0 (.inl (some (.int r))) (thE g h) 0 0 (thE g h) 4 [(0, va_rf (some t)), (1, .int a1), (2, .int a2)] []) (h : TH) (t : Nat) (a1 : Int32) (a2 : Int32) (hf : fX2_offSet_38 k4 h t a1 a2 = some r) : AW MX2_offSet rmX2_offSet l g x0 (.inl (some (.int r))) (thE g h) 0 0 (thE g h) 38 [(0, va_rf (some t)), (1, .int a1), (2, .int a2)] [] := by
  rw [fX2_offSet_38] at hf
  refine aw_iinc [(2, .int (a2 + (1 : Int32))), (0, va_rf (some t)), (1, .int a1)] 2 dX2_offSet_38 rfl rfl (by decide) rfl ?_
  refine aw_goto 4 dX2_offSet_41 (by decide) ?_
  refine aw_lv [1, 2, 0] rfl ?_
  exact hk4 _ _ _ _ hf
def fX2_offSet_4 : Nat → TH → Nat → Int32 → Int32 → Option (Int32)
  | 0, _, _, _, _ => none
  | n + 1, h, t, a1, a2 =>
    (if t_kd h t = 2 then (t_R h t 2).bind fun p2 => (if t_kd h p2 = 12 then (if (nI (t_ln h p2)) ≤ a2 then some a1 else (if xin a2 (t_ln h p2) = true then (if (t_R h p2 a2.toNatClampNeg) = none then fX2_offSet_38 (fX2_offSet_4 n) h t a1 a2 else (fX2_isOff h t (t_R h p2 a2.toNatClampNeg)).bind fun q7 => (if q7 = false then fX2_offSet_38 (fX2_offSet_4 n) h t a1 a2 else fX2_offSet_38 (fX2_offSet_4 n) h t (a1 ||| (x_ishl (1 : Int32) a2)) a2)) else none)) else none) else none)
set_option maxHeartbeats 4000000 in
set_option maxRecDepth 100000 in
theorem wkX2_offSet_4 {l : Launch} {g : xG} {x0 : xV} (hl : l.stackTraces = false) {r : Int32} : ∀ (n : Nat) (h : TH) (t : Nat) (a1 : Int32) (a2 : Int32), fX2_offSet_4 n h t a1 a2 = some r → AW MX2_offSet rmX2_offSet l g x0 (.inl (some (.int r))) (thE g h) 0 0 (thE g h) 4 [(0, va_rf (some t)), (1, .int a1), (2, .int a2)] [] := by
  intro n
  induction n with
  | zero => intro h t a1 a2 hf; exact absurd hf (by simp [fX2_offSet_4])
  | succ n hk4 =>
    intro h t a1 a2 hf
    rw [fX2_offSet_4] at hf
    refine aw_iload_n 2 dX2_offSet_4 rfl ?_
    refine aw_qload_n 0 dX2_offSet_5 rfl ?_
    obtain ⟨hk_1, hf⟩ := xifn hf
    refine th_getR 1 2 inX2 rfl hk_1 rfl ⟨by decide, by decide, rfl⟩ (wl1 (i := 36) rfl rfl) dX2_offSet_6 ?_
    obtain ⟨p2, hp2, hf⟩ := xbind hf
    obtain ⟨hk_3, hf⟩ := xifn hf
    refine th_alenM hp2 hk_3 dX2_offSet_9 ?_
    refine aw_icmp_ge 44 dX2_offSet_10 (by decide) (fun c4 => ?_) (fun c4 => ?_)
    · rw [if_pos c4] at hf
      refine aw_iload_n 1 dX2_offSet_44 rfl ?_
      cases hf
      exact aw_iret dX2_offSet_45 rfl rfl rfl ⟨Nat.le_of_ble_eq_true rfl, Nat.le_of_ble_eq_true rfl⟩
    · rw [if_neg c4] at hf
      refine aw_qload_n 0 dX2_offSet_13 rfl ?_
      refine th_getR 1 2 inX2 rfl hk_1 rfl ⟨by decide, by decide, rfl⟩ (wl1 (i := 36) rfl rfl) dX2_offSet_14 ?_
      refine aw_iload_n 2 dX2_offSet_17 rfl ?_
      obtain ⟨hi5, hf⟩ := xifn hf
      refine th_aaldM hp2 hk_3 (xin_v hi5) dX2_offSet_18 ?_
      refine aw_qstore_n [(3, va_rf (t_R h p2 a2.toNatClampNeg)), (0, va_rf (some t)), (1, .int a1), (2, .int a2)] dX2_offSet_19 rfl (by decide) rfl ?_
      refine aw_qload_n 0 dX2_offSet_20 rfl ?_
      refine aw_ifnull 38 dX2_offSet_21 (by decide) (fun c6 => ?_) (fun c6 => ?_)
      · rw [if_pos c6] at hf
        refine aw_lv [1, 2, 3] rfl ?_
        exact wkX2_offSet_38 hl _ hk4 _ _ _ _ hf
      · rw [if_neg c6] at hf
        refine aw_qload_n 1 dX2_offSet_24 rfl ?_
        refine aw_qload_n 0 dX2_offSet_25 rfl ?_
        obtain ⟨q7, hq7, hf⟩ := xbind hf
        refine aw_callV 1 (some t) [va_rf (t_R h p2 a2.toNatClampNeg)] 1 rfl (thC_ob (h := h) hk_1 (by decide)) rfl rfl (ctX2_isOff hl _ _ _ hq7) ⟨wl1 (i := 92) rfl rfl, ciX2_isOff⟩ (wl1 (i := 94) rfl rfl) (wl0 (i := 1) rfl rfl) dX2_offSet_26 rfl rfl (Nat.le_of_ble_eq_true rfl) ⟨Nat.le_of_ble_eq_true rfl, Nat.le_of_ble_eq_true rfl⟩ ⟨Nat.le_of_ble_eq_true rfl, Nat.le_of_ble_eq_true rfl⟩ ?_
        refine aw_ifb_eq 38 dX2_offSet_29 (by decide) (fun c8 => ?_) (fun c8 => ?_)
        · rw [if_pos c8] at hf
          refine aw_lv [1, 2, 3] rfl ?_
          exact wkX2_offSet_38 hl _ hk4 _ _ _ _ hf
        · rw [if_neg c8] at hf
          refine aw_iload_n 2 dX2_offSet_32 rfl ?_
          refine aw_iconst (1 : Int32) dX2_offSet_33 (by decide) ?_
          refine aw_iload_n 3 dX2_offSet_34 rfl ?_
          refine aw_ishl dX2_offSet_35 ?_
          refine aw_ior dX2_offSet_36 ?_
          refine aw_istore_n [(1, .int (a1 ||| (x_ishl (1 : Int32) a2))), (3, va_rf (t_R h p2 a2.toNatClampNeg)), (0, va_rf (some t)), (2, .int a2)] dX2_offSet_37 rfl (by decide) rfl ?_
          refine aw_lv [2, 0, 3] rfl ?_
          exact wkX2_offSet_38 hl _ hk4 _ _ _ _ hf
def fX2_offSet (h : TH) (t : Nat) : Option (Int32) :=
  fX2_offSet_4 FU h t (0 : Int32) (0 : Int32)
set_option maxHeartbeats 4000000 in
set_option maxRecDepth 100000 in
theorem ctX2_offSet {l : Launch} {g : xG} (hl : l.stackTraces = false) {r : Int32} (h : TH) (t : Nat) (hf : fX2_offSet h t = some r) : CT yX2_offSet MX2_offSet rmX2_offSet l g [va_rf (some t)] (thE g h) (.inl (some (.int r))) (thE g h) := by
  rw [fX2_offSet] at hf
  refine CT.of (lv0 := [(0, va_rf (some t))]) (by decide +kernel) rfl rfl (by simp [lg_sl, cat_q, cat_i, cat_l, cat_r]) (by simp [lv_args, cat_q, cat_i, cat_l, cat_r]) hl ?_
  refine aw_iconst (0 : Int32) dX2_offSet_0 (by decide) ?_
  refine aw_istore_n [(1, .int (0 : Int32)), (0, va_rf (some t))] dX2_offSet_1 rfl (by decide) rfl ?_
  refine aw_iconst (0 : Int32) dX2_offSet_2 (by decide) ?_
  refine aw_istore_n [(2, .int (0 : Int32)), (1, .int (0 : Int32)), (0, va_rf (some t))] dX2_offSet_3 rfl (by decide) rfl ?_
  refine aw_lv [2, 1, 0] rfl ?_
  exact wkX2_offSet_4 hl _ _ _ _ _ hf
abbrev MX4_withPassing : xM := (RX4, cX4_withPassing, 1, (some (.object "AtariGarden$Position")), "withPassing")
abbrev rmX4_withPassing : Room := { frames := 2, cells := 1, slots := 6, locals := 47 }
theorem ciX4_withPassing : Cond.code yX4_withPassing cX4_withPassing 1 (some (.object "AtariGarden$Position")) ∈ wt ∧ Cond.initialized yX4_withPassing.cls ∈ wt ∧ (yX4_withPassing.cls ≠ "java/lang/invoke/MethodHandle" ∧ yX4_withPassing.cls ≠ "java/lang/invoke/VarHandle" ∧ (parseMethodDescriptor yX4_withPassing.desc).map (fun d => d.parameters.length) = some 0) := ⟨wl3 (i := 5) rfl rfl, wl1 (i := 15) rfl rfl, by decide +kernel, by decide +kernel, by decide +kernel⟩
def fX4_withPassing (h : TH) (t : Nat) : Option (Option Nat × TH) :=
  (if t_kd (s_N h 4 0) t = 4 then (fX4_init (s_N h 4 0) (t_sz h) (t_J (s_N h 4 0) t 0) (t_J (s_N h 4 0) t 1) ((1 : Int32) - (t_I (s_N h 4 0) t 2)) ((t_I (s_N h 4 0) t 4) + (1 : Int32)) (some t)).bind fun q2 => some ((some (t_sz h)), q2) else none)
set_option maxHeartbeats 4000000 in
set_option maxRecDepth 100000 in
theorem ctX4_withPassing {l : Launch} {g : xG} (hl : l.stackTraces = false) {r : Option Nat × TH} (h : TH) (t : Nat) (hf : fX4_withPassing h t = some r) : CT yX4_withPassing MX4_withPassing rmX4_withPassing l g [va_rf (some t)] (thE g h) (.inl (some (va_rf r.1))) (thE g r.2) := by
  rw [fX4_withPassing] at hf
  refine CT.of (lv0 := [(0, va_rf (some t))]) (by decide +kernel) rfl rfl (by simp [lg_sl, cat_q, cat_i, cat_l, cat_r]) (by simp [lv_args, cat_q, cat_i, cat_l, cat_r]) hl ?_
  refine th_new 3 xtX4 rfl (by decide) (wl2 (i := 55) rfl rfl) (wl2 (i := 56) rfl rfl) (wl1 (i := 15) rfl rfl) (by decide) ⟨Nat.le_of_ble_eq_true rfl, Nat.le_of_ble_eq_true rfl⟩ dX4_withPassing_0 ?_
  refine aw_dup dX4_withPassing_3 (cat_q _) ?_
  refine aw_qload_n 0 dX4_withPassing_4 rfl ?_
  obtain ⟨hk_1, hf⟩ := xifn hf
  refine th_getJ 3 0 inX4 rfl hk_1 rfl ⟨by decide, by decide, rfl⟩ (wl2 (i := 61) rfl rfl) dX4_withPassing_5 ?_
  refine aw_qload_n 0 dX4_withPassing_8 rfl ?_
  refine th_getJ 3 1 inX4 rfl hk_1 rfl ⟨by decide, by decide, rfl⟩ (wl2 (i := 63) rfl rfl) dX4_withPassing_9 ?_
  refine aw_iconst (1 : Int32) dX4_withPassing_12 (by decide) ?_
  refine aw_qload_n 0 dX4_withPassing_13 rfl ?_
  refine th_getI 3 2 inX4 rfl hk_1 rfl ⟨by decide, by decide, rfl⟩ (wl2 (i := 65) rfl rfl) dX4_withPassing_14 ?_
  refine aw_isub dX4_withPassing_17 ?_
  refine aw_qload_n 0 dX4_withPassing_18 rfl ?_
  refine th_getI 3 4 inX4 rfl hk_1 rfl ⟨by decide, by decide, rfl⟩ (wl2 (i := 71) rfl rfl) dX4_withPassing_19 ?_
  refine aw_iconst (1 : Int32) dX4_withPassing_22 (by decide) ?_
  refine aw_iadd dX4_withPassing_23 ?_
  refine aw_qload_n 0 dX4_withPassing_24 rfl ?_
  obtain ⟨q2, hq2, hf⟩ := xbind hf
  refine aw_callI _ [.long (t_J (s_N h 4 0) t 0), .long (t_J (s_N h 4 0) t 1), .int ((1 : Int32) - (t_I (s_N h 4 0) t 2)), .int ((t_I (s_N h 4 0) t 4) + (1 : Int32)), va_rf (some t)] 5 rfl rfl (ctX4_init hl _ _ _ _ _ _ _ hq2) ⟨wl2 (i := 57) rfl rfl, ciX4_init⟩ (wl2 (i := 58) rfl rfl) dX4_withPassing_25 rfl rfl (by simp [cat_q, cat_i, cat_l, cat_r]) ⟨Nat.le_of_ble_eq_true rfl, Nat.le_of_ble_eq_true rfl⟩ ⟨Nat.le_of_ble_eq_true rfl, Nat.le_of_ble_eq_true rfl⟩ ?_
  cases hf
  exact aw_aret "AtariGarden$Position" dX4_withPassing_28 rfl rfl rfl ⟨Nat.le_of_ble_eq_true rfl, Nat.le_of_ble_eq_true rfl⟩
abbrev MX3_advance : xM := (RX3, cX3_advance, 5, (some .int), "advance")
abbrev rmX3_advance : Room := { frames := 4, cells := 0, slots := 0, locals := 101 }
theorem ciX3_advance : Cond.code yX3_advance cX3_advance 5 (some .int) ∈ wt ∧ Cond.initialized yX3_advance.cls ∈ wt ∧ (yX3_advance.cls ≠ "java/lang/invoke/MethodHandle" ∧ yX3_advance.cls ≠ "java/lang/invoke/VarHandle" ∧ (parseMethodDescriptor yX3_advance.desc).map (fun d => d.parameters.length) = some 1) := ⟨wl2 (i := 229) rfl rfl, wl1 (i := 14) rfl rfl, by decide +kernel, by decide +kernel, by decide +kernel⟩
def fX3_advance (h : TH) (t : Nat) (a1 : Option Nat) : Option (Int32 × TH) :=
  (if t_kd h t = 3 then (t_R h t 6).bind fun p2 => (if t_kd h p2 = 4 then (fX4_stones h p2).bind fun q4 => a1.bind fun p5 => (if t_kd h p5 = 4 then (fX4_stones h p5).bind fun q7 => (fX4_stones h p5).bind fun q8 => (fJ_bitCount (q8 &&& (q4 ^^^ q7))).bind fun q9 => (fX3_keepLiberties (s_R h t 6 a1) t (q4 ^^^ q7)).bind fun q10 => (fJ_bitCount (q4 ^^^ q7)).bind fun q11 => some ((q11 - q9), q10) else none) else none) else none)
set_option maxHeartbeats 4000000 in
set_option maxRecDepth 100000 in
theorem ctX3_advance {l : Launch} {g : xG} (hl : l.stackTraces = false) {r : Int32 × TH} (h : TH) (t : Nat) (a1 : Option Nat) (hf : fX3_advance h t a1 = some r) : CT yX3_advance MX3_advance rmX3_advance l g [va_rf (some t), va_rf a1] (thE g h) (.inl (some (.int r.1))) (thE g r.2) := by
  rw [fX3_advance] at hf
  refine CT.of (lv0 := [(0, va_rf (some t)), (1, va_rf a1)]) (by decide +kernel) rfl rfl (by simp [lg_sl, cat_q, cat_i, cat_l, cat_r]) (by simp [lv_args, cat_q, cat_i, cat_l, cat_r]) hl ?_
  refine aw_qload_n 0 dX3_advance_0 rfl ?_
  obtain ⟨hk_1, hf⟩ := xifn hf
  refine th_getR 2 6 inX3 rfl hk_1 rfl ⟨by decide, by decide, rfl⟩ (wl2 (i := 137) rfl rfl) dX3_advance_1 ?_
  obtain ⟨p2, hp2, hf⟩ := xbind hf
  obtain ⟨hk_3, hf⟩ := xifn hf
  obtain ⟨q4, hq4, hf⟩ := xbind hf
  refine aw_callV 3 (t_R h t 6) [] 0 hp2 (thC_ob (h := h) hk_3 (by decide)) rfl rfl (ctX4_stones hl _ _ hq4) ⟨wl2 (i := 89) rfl rfl, ciX4_stones⟩ (wl2 (i := 90) rfl rfl) (wl2 (i := 91) rfl rfl) dX3_advance_4 rfl rfl (Nat.le_of_ble_eq_true rfl) ⟨Nat.le_of_ble_eq_true rfl, Nat.le_of_ble_eq_true rfl⟩ ⟨Nat.le_of_ble_eq_true rfl, Nat.le_of_ble_eq_true rfl⟩ ?_
  refine aw_qload_n 1 dX3_advance_7 rfl ?_
  obtain ⟨p5, hp5, hf⟩ := xbind hf
  obtain ⟨hk_6, hf⟩ := xifn hf
  obtain ⟨q7, hq7, hf⟩ := xbind hf
  refine aw_callV 3 a1 [] 0 hp5 (thC_ob (h := h) hk_6 (by decide)) rfl rfl (ctX4_stones hl _ _ hq7) ⟨wl2 (i := 89) rfl rfl, ciX4_stones⟩ (wl2 (i := 90) rfl rfl) (wl2 (i := 91) rfl rfl) dX3_advance_8 rfl rfl (Nat.le_of_ble_eq_true rfl) ⟨Nat.le_of_ble_eq_true rfl, Nat.le_of_ble_eq_true rfl⟩ ⟨Nat.le_of_ble_eq_true rfl, Nat.le_of_ble_eq_true rfl⟩ ?_
  refine aw_lxor dX3_advance_11 ?_
  refine aw_lstore_n (i := 2) [(2, .long (q4 ^^^ q7)), (0, va_rf (some t)), (1, va_rf a1)] dX3_advance_12 rfl (by decide) (by simp [cat_q, cat_i, cat_l, cat_r]) ?_
  refine aw_qload_n 2 dX3_advance_13 rfl ?_
  obtain ⟨q8, hq8, hf⟩ := xbind hf
  refine aw_callV 3 a1 [] 0 hp5 (thC_ob (h := h) hk_6 (by decide)) rfl rfl (ctX4_stones hl _ _ hq8) ⟨wl2 (i := 89) rfl rfl, ciX4_stones⟩ (wl2 (i := 90) rfl rfl) (wl2 (i := 91) rfl rfl) dX3_advance_14 rfl rfl (Nat.le_of_ble_eq_true rfl) ⟨Nat.le_of_ble_eq_true rfl, Nat.le_of_ble_eq_true rfl⟩ ⟨Nat.le_of_ble_eq_true rfl, Nat.le_of_ble_eq_true rfl⟩ ?_
  refine aw_lload_n 0 dX3_advance_17 rfl ?_
  refine aw_land dX3_advance_18 ?_
  obtain ⟨q9, hq9, hf⟩ := xbind hf
  refine aw_callS [.long (q8 &&& (q4 ^^^ q7))] 1 (ctJ_bitCount hl _ hq9) ⟨wl2 (i := 119) rfl rfl, ciJ_bitCount⟩ (wl2 (i := 120) rfl rfl) dX3_advance_19 rfl rfl (Nat.le_of_ble_eq_true rfl) ⟨Nat.le_of_ble_eq_true rfl, Nat.le_of_ble_eq_true rfl⟩ ⟨Nat.le_of_ble_eq_true rfl, Nat.le_of_ble_eq_true rfl⟩ ?_
  refine aw_istore [(4, .int q9), (2, .long (q4 ^^^ q7)), (0, va_rf (some t)), (1, va_rf a1)] dX3_advance_22 (by decide) rfl ?_
  refine aw_qload_n 2 dX3_advance_24 rfl ?_
  refine aw_qload_n 3 dX3_advance_25 rfl ?_
  refine th_putR 2 6 xtX3 rfl hk_1 rfl ⟨by decide, by decide, rfl⟩ rfl (nar_q _ _) (fit_q _ _) (wl2 (i := 137) rfl rfl) rfl dX3_advance_26 ?_
  refine aw_qload_n 2 dX3_advance_29 rfl ?_
  refine aw_lload_n 1 dX3_advance_30 rfl ?_
  obtain ⟨q10, hq10, hf⟩ := xbind hf
  refine aw_callV 2 (some t) [.long (q4 ^^^ q7)] 1 rfl (thC_ob (h := (s_R h t 6 a1)) hk_1 (by decide)) rfl rfl (ctX3_keepLiberties hl _ _ _ hq10) ⟨wl2 (i := 93) rfl rfl, ciX3_keepLiberties⟩ (wl2 (i := 95) rfl rfl) (wl0 (i := 6) rfl rfl) dX3_advance_31 rfl rfl (Nat.le_of_ble_eq_true rfl) ⟨Nat.le_of_ble_eq_true rfl, Nat.le_of_ble_eq_true rfl⟩ ⟨Nat.le_of_ble_eq_true rfl, Nat.le_of_ble_eq_true rfl⟩ ?_
  refine aw_lload_n 1 dX3_advance_34 rfl ?_
  obtain ⟨q11, hq11, hf⟩ := xbind hf
  refine aw_callS [.long (q4 ^^^ q7)] 1 (ctJ_bitCount hl _ hq11) ⟨wl2 (i := 119) rfl rfl, ciJ_bitCount⟩ (wl2 (i := 120) rfl rfl) dX3_advance_35 rfl rfl (Nat.le_of_ble_eq_true rfl) ⟨Nat.le_of_ble_eq_true rfl, Nat.le_of_ble_eq_true rfl⟩ ⟨Nat.le_of_ble_eq_true rfl, Nat.le_of_ble_eq_true rfl⟩ ?_
  refine aw_iload 0 dX3_advance_38 rfl ?_
  refine aw_isub dX3_advance_40 ?_
  cases hf
  exact aw_iret dX3_advance_41 rfl rfl rfl ⟨Nat.le_of_ble_eq_true rfl, Nat.le_of_ble_eq_true rfl⟩
abbrev MX3_lead : xM := (RX3, cX3_lead, 2, (some .int), "lead")
abbrev rmX3_lead : Room := { frames := 3, cells := 0, slots := 0, locals := 80 }
theorem ciX3_lead : Cond.code yX3_lead cX3_lead 2 (some .int) ∈ wt ∧ Cond.initialized yX3_lead.cls ∈ wt ∧ (yX3_lead.cls ≠ "java/lang/invoke/MethodHandle" ∧ yX3_lead.cls ≠ "java/lang/invoke/VarHandle" ∧ (parseMethodDescriptor yX3_lead.desc).map (fun d => d.parameters.length) = some 0) := ⟨wl3 (i := 14) rfl rfl, wl1 (i := 14) rfl rfl, by decide +kernel, by decide +kernel, by decide +kernel⟩
def fX3_lead_16 (h : TH) (t : Nat) (s0 : Int32) : Option (Int32) :=
  (if t_kd h t = 3 then (t_R h t 6).bind fun p2 => (if t_kd h p2 = 4 then (fX0_lead (t_J h p2 0) (t_J h p2 1)).bind fun q4 => some (q4 - s0) else none) else none)
set_option maxHeartbeats 4000000 in
set_option maxRecDepth 100000 in
theorem wkX3_lead_16 {l : Launch} {g : xG} {x0 : xV} (hl : l.stackTraces = false) {r : Int32} (h : TH) (t : Nat) (s0 : Int32) (hf : fX3_lead_16 h t s0 = some r) : AW MX3_lead rmX3_lead l g x0 (.inl (some (.int r))) (thE g h) 0 0 (thE g h) 16 [(0, va_rf (some t))] [.int s0] := by
  rw [fX3_lead_16] at hf
  refine aw_istore_n [(1, .int s0), (0, va_rf (some t))] dX3_lead_16 rfl (by decide) rfl ?_
  refine aw_qload_n 1 dX3_lead_17 rfl ?_
  obtain ⟨hk_1, hf⟩ := xifn hf
  refine th_getR 2 6 inX3 rfl hk_1 rfl ⟨by decide, by decide, rfl⟩ (wl2 (i := 137) rfl rfl) dX3_lead_18 ?_
  obtain ⟨p2, hp2, hf⟩ := xbind hf
  obtain ⟨hk_3, hf⟩ := xifn hf
  refine th_getJN "AtariGarden" 3 0 inX4 hp2 hk_3 rfl ⟨by decide, by decide, rfl⟩ (wm2 (i := 62) rfl) dX3_lead_21 ?_
  refine aw_qload_n 1 dX3_lead_24 rfl ?_
  refine th_getR 2 6 inX3 rfl hk_1 rfl ⟨by decide, by decide, rfl⟩ (wl2 (i := 137) rfl rfl) dX3_lead_25 ?_
  refine th_getJN "AtariGarden" 3 1 inX4 hp2 hk_3 rfl ⟨by decide, by decide, rfl⟩ (wm2 (i := 64) rfl) dX3_lead_28 ?_
  obtain ⟨q4, hq4, hf⟩ := xbind hf
  refine aw_callS [.long (t_J h p2 0), .long (t_J h p2 1)] 2 (ctX0_lead hl _ _ hq4) ⟨wl3 (i := 15) rfl rfl, ciX0_lead⟩ (wl3 (i := 16) rfl rfl) dX3_lead_31 rfl rfl (Nat.le_of_ble_eq_true rfl) ⟨Nat.le_of_ble_eq_true rfl, Nat.le_of_ble_eq_true rfl⟩ ⟨Nat.le_of_ble_eq_true rfl, Nat.le_of_ble_eq_true rfl⟩ ?_
  refine aw_iload_n 0 dX3_lead_34 rfl ?_
  refine aw_isub dX3_lead_35 ?_
  cases hf
  exact aw_iret dX3_lead_36 rfl rfl rfl ⟨Nat.le_of_ble_eq_true rfl, Nat.le_of_ble_eq_true rfl⟩
def fX3_lead (h : TH) (t : Nat) : Option (Int32) :=
  (if t_kd h t = 3 then (if ((t_I h t 2) - (t_I h t 2) / (10 : Int32) * (10 : Int32)) = 0 then fX3_lead_16 h t (6 : Int32) else fX3_lead_16 h t (0 : Int32)) else none)
set_option maxHeartbeats 4000000 in
set_option maxRecDepth 100000 in
theorem ctX3_lead {l : Launch} {g : xG} (hl : l.stackTraces = false) {r : Int32} (h : TH) (t : Nat) (hf : fX3_lead h t = some r) : CT yX3_lead MX3_lead rmX3_lead l g [va_rf (some t)] (thE g h) (.inl (some (.int r))) (thE g h) := by
  rw [fX3_lead] at hf
  refine CT.of (lv0 := [(0, va_rf (some t))]) (by decide +kernel) rfl rfl (by simp [lg_sl, cat_q, cat_i, cat_l, cat_r]) (by simp [lv_args, cat_q, cat_i, cat_l, cat_r]) hl ?_
  refine aw_qload_n 0 dX3_lead_0 rfl ?_
  obtain ⟨hk_1, hf⟩ := xifn hf
  refine th_getI 2 2 inX3 rfl hk_1 rfl ⟨by decide, by decide, rfl⟩ (wl2 (i := 130) rfl rfl) dX3_lead_1 ?_
  refine aw_bipush (10 : Int32) dX3_lead_4 (by decide) ?_
  refine aw_irem dX3_lead_6 (by decide) ?_
  refine aw_if_ne 15 dX3_lead_7 (by decide) (fun c2 => ?_) (fun c2 => ?_)
  · rw [if_neg c2] at hf
    refine aw_iconst (0 : Int32) dX3_lead_15 (by decide) ?_
    refine aw_lv [0] rfl ?_
    exact wkX3_lead_16 hl _ _ _ hf
  · rw [if_pos c2] at hf
    refine aw_bipush (6 : Int32) dX3_lead_10 (by decide) ?_
    refine aw_goto 16 dX3_lead_12 (by decide) ?_
    refine aw_lv [0] rfl ?_
    exact wkX3_lead_16 hl _ _ _ hf
abbrev MX3_wonByCounting : xM := (RX3, cX3_wonByCounting, 1, (some .int), "wonByCounting")
abbrev rmX3_wonByCounting : Room := { frames := 4, cells := 0, slots := 0, locals := 101 }
theorem ciX3_wonByCounting : Cond.code yX3_wonByCounting cX3_wonByCounting 1 (some .int) ∈ wt ∧ Cond.initialized yX3_wonByCounting.cls ∈ wt ∧ (yX3_wonByCounting.cls ≠ "java/lang/invoke/MethodHandle" ∧ yX3_wonByCounting.cls ≠ "java/lang/invoke/VarHandle" ∧ (parseMethodDescriptor yX3_wonByCounting.desc).map (fun d => d.parameters.length) = some 0) := ⟨wl3 (i := 10) rfl rfl, wl1 (i := 14) rfl rfl, by decide +kernel, by decide +kernel, by decide +kernel⟩
def fX3_wonByCounting (h : TH) (t : Nat) : Option (Int32) :=
  (if t_kd h t = 3 then (fX3_lead h t).bind fun q2 => (if q2 ≤ 0 then some (2 : Int32) else some (1 : Int32)) else none)
set_option maxHeartbeats 4000000 in
set_option maxRecDepth 100000 in
theorem ctX3_wonByCounting {l : Launch} {g : xG} (hl : l.stackTraces = false) {r : Int32} (h : TH) (t : Nat) (hf : fX3_wonByCounting h t = some r) : CT yX3_wonByCounting MX3_wonByCounting rmX3_wonByCounting l g [va_rf (some t)] (thE g h) (.inl (some (.int r))) (thE g h) := by
  rw [fX3_wonByCounting] at hf
  refine CT.of (lv0 := [(0, va_rf (some t))]) (by decide +kernel) rfl rfl (by simp [lg_sl, cat_q, cat_i, cat_l, cat_r]) (by simp [lv_args, cat_q, cat_i, cat_l, cat_r]) hl ?_
  refine aw_qload_n 0 dX3_wonByCounting_0 rfl ?_
  obtain ⟨hk_1, hf⟩ := xifn hf
  obtain ⟨q2, hq2, hf⟩ := xbind hf
  refine aw_callV 2 (some t) [] 0 rfl (thC_ob (h := h) hk_1 (by decide)) rfl rfl (ctX3_lead hl _ _ hq2) ⟨wl3 (i := 11) rfl rfl, ciX3_lead⟩ (wl3 (i := 12) rfl rfl) (wl3 (i := 13) rfl rfl) dX3_wonByCounting_1 rfl rfl (Nat.le_of_ble_eq_true rfl) ⟨Nat.le_of_ble_eq_true rfl, Nat.le_of_ble_eq_true rfl⟩ ⟨Nat.le_of_ble_eq_true rfl, Nat.le_of_ble_eq_true rfl⟩ ?_
  refine aw_if_le 11 dX3_wonByCounting_4 (by decide) (fun c3 => ?_) (fun c3 => ?_)
  · rw [if_pos c3] at hf
    refine aw_iconst (2 : Int32) dX3_wonByCounting_11 (by decide) ?_
    cases hf
    exact aw_iret dX3_wonByCounting_12 rfl rfl rfl ⟨Nat.le_of_ble_eq_true rfl, Nat.le_of_ble_eq_true rfl⟩
  · rw [if_neg c3] at hf
    refine aw_iconst (1 : Int32) dX3_wonByCounting_7 (by decide) ?_
    refine aw_goto 12 dX3_wonByCounting_8 (by decide) ?_
    cases hf
    exact aw_iret dX3_wonByCounting_12 rfl rfl rfl ⟨Nat.le_of_ble_eq_true rfl, Nat.le_of_ble_eq_true rfl⟩
abbrev MX2_passIn : xM := (RX2, cX2_passIn, 2, none, "passIn")
abbrev rmX2_passIn : Room := { frames := 5, cells := 1, slots := 6, locals := 125 }
theorem ciX2_passIn : Cond.code yX2_passIn cX2_passIn 2 none ∈ wt ∧ Cond.initialized yX2_passIn.cls ∈ wt ∧ (yX2_passIn.cls ≠ "java/lang/invoke/MethodHandle" ∧ yX2_passIn.cls ≠ "java/lang/invoke/VarHandle" ∧ (parseMethodDescriptor yX2_passIn.desc).map (fun d => d.parameters.length) = some 1) := ⟨wl3 (i := 1) rfl rfl, wl1 (i := 2) rfl rfl, by decide +kernel, by decide +kernel, by decide +kernel⟩
def fX2_passIn (h : TH) (t : Nat) (a1 : Option Nat) : Option (TH) :=
  a1.bind fun p1 => (if t_kd h p1 = 3 then (t_R h p1 6).bind fun p3 => (if t_kd h p3 = 4 then (fX4_withPassing h p3).bind fun q5 => (if t_kd q5.2 p1 = 3 then (fX3_advance q5.2 p1 q5.1).bind fun q7 => (if t_kd q7.2 p1 = 3 then (t_R q7.2 p1 6).bind fun p9 => (if t_kd q7.2 p9 = 4 then (if (t_I q7.2 p9 4) < (2 : Int32) then some q7.2 else (fX3_wonByCounting q7.2 p1).bind fun q12 => (if t_kd q7.2 t = 2 then (fX2_end q7.2 t a1 q12).bind fun q14 => some q14 else none)) else none) else none) else none) else none) else none)
set_option maxHeartbeats 4000000 in
set_option maxRecDepth 100000 in
theorem ctX2_passIn {l : Launch} {g : xG} (hl : l.stackTraces = false) {r : TH} (h : TH) (t : Nat) (a1 : Option Nat) (hf : fX2_passIn h t a1 = some r) : CT yX2_passIn MX2_passIn rmX2_passIn l g [va_rf (some t), va_rf a1] (thE g h) (.inl none) (thE g r) := by
  rw [fX2_passIn] at hf
  refine CT.of (lv0 := [(0, va_rf (some t)), (1, va_rf a1)]) (by decide +kernel) rfl rfl (by simp [lg_sl, cat_q, cat_i, cat_l, cat_r]) (by simp [lv_args, cat_q, cat_i, cat_l, cat_r]) hl ?_
  refine aw_qload_n 1 dX2_passIn_0 rfl ?_
  refine aw_qload_n 1 dX2_passIn_1 rfl ?_
  obtain ⟨p1, hp1, hf⟩ := xbind hf
  obtain ⟨hk_2, hf⟩ := xifn hf
  refine th_getRN "AtariGarden" 2 6 inX3 hp1 hk_2 rfl ⟨by decide, by decide, rfl⟩ (wm2 (i := 139) rfl) dX2_passIn_2 ?_
  obtain ⟨p3, hp3, hf⟩ := xbind hf
  obtain ⟨hk_4, hf⟩ := xifn hf
  obtain ⟨q5, hq5, hf⟩ := xbind hf
  refine aw_callV 3 (t_R h p1 6) [] 0 hp3 (thC_ob (h := h) hk_4 (by decide)) rfl rfl (ctX4_withPassing hl _ _ hq5) ⟨wl3 (i := 2) rfl rfl, ciX4_withPassing⟩ (wl3 (i := 3) rfl rfl) (wl3 (i := 4) rfl rfl) dX2_passIn_5 rfl rfl (by simp [cat_q, cat_i, cat_l, cat_r]) ⟨Nat.le_of_ble_eq_true rfl, Nat.le_of_ble_eq_true rfl⟩ ⟨Nat.le_of_ble_eq_true rfl, Nat.le_of_ble_eq_true rfl⟩ ?_
  obtain ⟨hk_6, hf⟩ := xifn hf
  obtain ⟨q7, hq7, hf⟩ := xbind hf
  refine aw_callV 2 a1 [va_rf q5.1] 1 hp1 (thC_ob (h := q5.2) hk_6 (by decide)) rfl rfl (ctX3_advance hl _ _ _ hq7) ⟨wl3 (i := 6) rfl rfl, ciX3_advance⟩ (wl2 (i := 227) rfl rfl) (wl2 (i := 228) rfl rfl) dX2_passIn_8 rfl rfl (Nat.le_of_ble_eq_true rfl) ⟨Nat.le_of_ble_eq_true rfl, Nat.le_of_ble_eq_true rfl⟩ ⟨Nat.le_of_ble_eq_true rfl, Nat.le_of_ble_eq_true rfl⟩ ?_
  refine aw_pop dX2_passIn_11 rfl ?_
  refine aw_qload_n 1 dX2_passIn_12 rfl ?_
  obtain ⟨hk_8, hf⟩ := xifn hf
  refine th_getRN "AtariGarden" 2 6 inX3 hp1 hk_8 rfl ⟨by decide, by decide, rfl⟩ (wm2 (i := 139) rfl) dX2_passIn_13 ?_
  obtain ⟨p9, hp9, hf⟩ := xbind hf
  obtain ⟨hk_10, hf⟩ := xifn hf
  refine th_getIN "AtariGarden" 3 4 inX4 hp9 hk_10 rfl ⟨by decide, by decide, rfl⟩ (wm2 (i := 72) rfl) dX2_passIn_16 ?_
  refine aw_iconst (2 : Int32) dX2_passIn_19 (by decide) ?_
  refine aw_icmp_lt 32 dX2_passIn_20 (by decide) (fun c11 => ?_) (fun c11 => ?_)
  · rw [if_pos c11] at hf
    cases hf
    exact aw_vret dX2_passIn_32 rfl rfl rfl ⟨Nat.le_of_ble_eq_true rfl, Nat.le_of_ble_eq_true rfl⟩
  · rw [if_neg c11] at hf
    refine aw_qload_n 0 dX2_passIn_23 rfl ?_
    refine aw_qload_n 1 dX2_passIn_24 rfl ?_
    refine aw_qload_n 1 dX2_passIn_25 rfl ?_
    obtain ⟨q12, hq12, hf⟩ := xbind hf
    refine aw_callV 2 a1 [] 0 hp1 (thC_ob (h := q7.2) hk_8 (by decide)) rfl rfl (ctX3_wonByCounting hl _ _ hq12) ⟨wl3 (i := 7) rfl rfl, ciX3_wonByCounting⟩ (wl3 (i := 8) rfl rfl) (wl3 (i := 9) rfl rfl) dX2_passIn_26 rfl rfl (by simp [cat_q, cat_i, cat_l, cat_r]) ⟨Nat.le_of_ble_eq_true rfl, Nat.le_of_ble_eq_true rfl⟩ ⟨Nat.le_of_ble_eq_true rfl, Nat.le_of_ble_eq_true rfl⟩ ?_
    obtain ⟨hk_13, hf⟩ := xifn hf
    obtain ⟨q14, hq14, hf⟩ := xbind hf
    refine aw_callV 1 (some t) [va_rf a1, .int q12] 2 rfl (thC_ob (h := q7.2) hk_13 (by decide)) rfl rfl (ctX2_end hl _ _ _ _ hq14) ⟨wl2 (i := 222) rfl rfl, ciX2_end⟩ (wl2 (i := 223) rfl rfl) (wl2 (i := 224) rfl rfl) dX2_passIn_29 rfl rfl (Nat.le_of_ble_eq_true rfl) ⟨Nat.le_of_ble_eq_true rfl, Nat.le_of_ble_eq_true rfl⟩ ⟨Nat.le_of_ble_eq_true rfl, Nat.le_of_ble_eq_true rfl⟩ ?_
    cases hf
    exact aw_vret dX2_passIn_32 rfl rfl rfl ⟨Nat.le_of_ble_eq_true rfl, Nat.le_of_ble_eq_true rfl⟩
abbrev MX3_clockOf : xM := (RX3, cX3_clockOf, 2, (some (.object "AtariGarden$Clock")), "clockOf")
abbrev rmX3_clockOf : Room := { frames := 0, cells := 0, slots := 0, locals := 0 }
theorem ciX3_clockOf : Cond.code yX3_clockOf cX3_clockOf 2 (some (.object "AtariGarden$Clock")) ∈ wt ∧ Cond.initialized yX3_clockOf.cls ∈ wt ∧ (yX3_clockOf.cls ≠ "java/lang/invoke/MethodHandle" ∧ yX3_clockOf.cls ≠ "java/lang/invoke/VarHandle" ∧ (parseMethodDescriptor yX3_clockOf.desc).map (fun d => d.parameters.length) = some 1) := ⟨wl2 (i := 212) rfl rfl, wl1 (i := 14) rfl rfl, by decide +kernel, by decide +kernel, by decide +kernel⟩
def fX3_clockOf (h : TH) (t : Nat) (a1 : Int32) : Option (Option Nat) :=
  (if a1 = 0 then (if t_kd h t = 3 then some (t_R h t 4) else none) else (if t_kd h t = 3 then some (t_R h t 5) else none))
set_option maxHeartbeats 4000000 in
set_option maxRecDepth 100000 in
theorem ctX3_clockOf {l : Launch} {g : xG} (hl : l.stackTraces = false) {r : Option Nat} (h : TH) (t : Nat) (a1 : Int32) (hf : fX3_clockOf h t a1 = some r) : CT yX3_clockOf MX3_clockOf rmX3_clockOf l g [va_rf (some t), .int a1] (thE g h) (.inl (some (va_rf r))) (thE g h) := by
  rw [fX3_clockOf] at hf
  refine CT.of (lv0 := [(0, va_rf (some t)), (1, .int a1)]) (by decide +kernel) rfl rfl (by simp [lg_sl, cat_q, cat_i, cat_l, cat_r]) (by simp [lv_args, cat_q, cat_i, cat_l, cat_r]) hl ?_
  refine aw_iload_n 1 dX3_clockOf_0 rfl ?_
  refine aw_if_ne 11 dX3_clockOf_1 (by decide) (fun c1 => ?_) (fun c1 => ?_)
  · rw [if_neg c1] at hf
    refine aw_qload_n 0 dX3_clockOf_11 rfl ?_
    obtain ⟨hk_2, hf⟩ := xifn hf
    refine th_getR 2 5 inX3 rfl hk_2 rfl ⟨by decide, by decide, rfl⟩ (wl2 (i := 136) rfl rfl) dX3_clockOf_12 ?_
    cases hf
    exact aw_aret "AtariGarden$Clock" dX3_clockOf_15 rfl rfl rfl ⟨Nat.le_of_ble_eq_true rfl, Nat.le_of_ble_eq_true rfl⟩
  · rw [if_pos c1] at hf
    refine aw_qload_n 0 dX3_clockOf_4 rfl ?_
    obtain ⟨hk_3, hf⟩ := xifn hf
    refine th_getR 2 4 inX3 rfl hk_3 rfl ⟨by decide, by decide, rfl⟩ (wl2 (i := 135) rfl rfl) dX3_clockOf_5 ?_
    refine aw_goto 15 dX3_clockOf_8 (by decide) ?_
    cases hf
    exact aw_aret "AtariGarden$Clock" dX3_clockOf_15 rfl rfl rfl ⟨Nat.le_of_ble_eq_true rfl, Nat.le_of_ble_eq_true rfl⟩
abbrev MX3_wonAgainstMover : xM := (RX3, cX3_wonAgainstMover, 1, (some .int), "wonAgainstMover")
abbrev rmX3_wonAgainstMover : Room := { frames := 0, cells := 0, slots := 0, locals := 0 }
theorem ciX3_wonAgainstMover : Cond.code yX3_wonAgainstMover cX3_wonAgainstMover 1 (some .int) ∈ wt ∧ Cond.initialized yX3_wonAgainstMover.cls ∈ wt ∧ (yX3_wonAgainstMover.cls ≠ "java/lang/invoke/MethodHandle" ∧ yX3_wonAgainstMover.cls ≠ "java/lang/invoke/VarHandle" ∧ (parseMethodDescriptor yX3_wonAgainstMover.desc).map (fun d => d.parameters.length) = some 0) := ⟨wl2 (i := 221) rfl rfl, wl1 (i := 14) rfl rfl, by decide +kernel, by decide +kernel, by decide +kernel⟩
def fX3_wonAgainstMover (h : TH) (t : Nat) : Option (Int32) :=
  (if t_kd h t = 3 then (t_R h t 6).bind fun p2 => (if t_kd h p2 = 4 then (if (t_I h p2 2) = 0 then some (2 : Int32) else some (1 : Int32)) else none) else none)
set_option maxHeartbeats 4000000 in
set_option maxRecDepth 100000 in
theorem ctX3_wonAgainstMover {l : Launch} {g : xG} (hl : l.stackTraces = false) {r : Int32} (h : TH) (t : Nat) (hf : fX3_wonAgainstMover h t = some r) : CT yX3_wonAgainstMover MX3_wonAgainstMover rmX3_wonAgainstMover l g [va_rf (some t)] (thE g h) (.inl (some (.int r))) (thE g h) := by
  rw [fX3_wonAgainstMover] at hf
  refine CT.of (lv0 := [(0, va_rf (some t))]) (by decide +kernel) rfl rfl (by simp [lg_sl, cat_q, cat_i, cat_l, cat_r]) (by simp [lv_args, cat_q, cat_i, cat_l, cat_r]) hl ?_
  refine aw_qload_n 0 dX3_wonAgainstMover_0 rfl ?_
  obtain ⟨hk_1, hf⟩ := xifn hf
  refine th_getR 2 6 inX3 rfl hk_1 rfl ⟨by decide, by decide, rfl⟩ (wl2 (i := 137) rfl rfl) dX3_wonAgainstMover_1 ?_
  obtain ⟨p2, hp2, hf⟩ := xbind hf
  obtain ⟨hk_3, hf⟩ := xifn hf
  refine th_getIN "AtariGarden" 3 2 inX4 hp2 hk_3 rfl ⟨by decide, by decide, rfl⟩ (wm2 (i := 66) rfl) dX3_wonAgainstMover_4 ?_
  refine aw_if_ne 14 dX3_wonAgainstMover_7 (by decide) (fun c4 => ?_) (fun c4 => ?_)
  · rw [if_neg c4] at hf
    refine aw_iconst (1 : Int32) dX3_wonAgainstMover_14 (by decide) ?_
    cases hf
    exact aw_iret dX3_wonAgainstMover_15 rfl rfl rfl ⟨Nat.le_of_ble_eq_true rfl, Nat.le_of_ble_eq_true rfl⟩
  · rw [if_pos c4] at hf
    refine aw_iconst (2 : Int32) dX3_wonAgainstMover_10 (by decide) ?_
    refine aw_goto 15 dX3_wonAgainstMover_11 (by decide) ?_
    cases hf
    exact aw_iret dX3_wonAgainstMover_15 rfl rfl rfl ⟨Nat.le_of_ble_eq_true rfl, Nat.le_of_ble_eq_true rfl⟩
abbrev MX2_spend : xM := (RX2, cX2_spend, 3, (some .boolean), "spend")
abbrev rmX2_spend : Room := { frames := 2, cells := 0, slots := 0, locals := 44 }
theorem ciX2_spend : Cond.code yX2_spend cX2_spend 3 (some .boolean) ∈ wt ∧ Cond.initialized yX2_spend.cls ∈ wt ∧ (yX2_spend.cls ≠ "java/lang/invoke/MethodHandle" ∧ yX2_spend.cls ≠ "java/lang/invoke/VarHandle" ∧ (parseMethodDescriptor yX2_spend.desc).map (fun d => d.parameters.length) = some 2) := ⟨wl2 (i := 208) rfl rfl, wl1 (i := 2) rfl rfl, by decide +kernel, by decide +kernel, by decide +kernel⟩
def fX2_spend (h : TH) (t : Nat) (a1 : Option Nat) (a2 : Int32) : Option (Bool × TH) :=
  a1.bind fun p1 => (if t_kd h p1 = 3 then (t_R h p1 6).bind fun p3 => (if t_kd h p3 = 4 then (fX3_clockOf h p1 (t_I h p3 2)).bind fun q5 => q5.bind fun p6 => (if t_kd h p6 = 1 then (fX1_take h p6 a2).bind fun q8 => (if q8.1 = false then (if t_kd q8.2 p1 = 3 then (fX3_wonAgainstMover q8.2 p1).bind fun q11 => (if t_kd q8.2 t = 2 then (fX2_end q8.2 t a1 q11).bind fun q13 => some (false, q13) else none) else none) else some (true, q8.2)) else none) else none) else none)
set_option maxHeartbeats 4000000 in
set_option maxRecDepth 100000 in
theorem ctX2_spend {l : Launch} {g : xG} (hl : l.stackTraces = false) {r : Bool × TH} (h : TH) (t : Nat) (a1 : Option Nat) (a2 : Int32) (hf : fX2_spend h t a1 a2 = some r) : CT yX2_spend MX2_spend rmX2_spend l g [va_rf (some t), va_rf a1, .int a2] (thE g h) (.inl (some (.int (bi r.1)))) (thE g r.2) := by
  rw [fX2_spend] at hf
  refine CT.of (lv0 := [(0, va_rf (some t)), (1, va_rf a1), (2, .int a2)]) (by decide +kernel) rfl rfl (by simp [lg_sl, cat_q, cat_i, cat_l, cat_r]) (by simp [lv_args, cat_q, cat_i, cat_l, cat_r]) hl ?_
  refine aw_qload_n 1 dX2_spend_0 rfl ?_
  refine aw_qload_n 1 dX2_spend_1 rfl ?_
  obtain ⟨p1, hp1, hf⟩ := xbind hf
  obtain ⟨hk_2, hf⟩ := xifn hf
  refine th_getRN "AtariGarden" 2 6 inX3 hp1 hk_2 rfl ⟨by decide, by decide, rfl⟩ (wm2 (i := 139) rfl) dX2_spend_2 ?_
  obtain ⟨p3, hp3, hf⟩ := xbind hf
  obtain ⟨hk_4, hf⟩ := xifn hf
  refine th_getIN "AtariGarden" 3 2 inX4 hp3 hk_4 rfl ⟨by decide, by decide, rfl⟩ (wm2 (i := 67) rfl) dX2_spend_5 ?_
  obtain ⟨q5, hq5, hf⟩ := xbind hf
  refine aw_callV 2 a1 [.int (t_I h p3 2)] 1 hp1 (thC_ob (h := h) hk_2 (by decide)) rfl rfl (ctX3_clockOf hl _ _ _ hq5) ⟨wl2 (i := 209) rfl rfl, ciX3_clockOf⟩ (wl2 (i := 210) rfl rfl) (wl2 (i := 211) rfl rfl) dX2_spend_8 rfl rfl (Nat.le_of_ble_eq_true rfl) ⟨Nat.le_of_ble_eq_true rfl, Nat.le_of_ble_eq_true rfl⟩ ⟨Nat.le_of_ble_eq_true rfl, Nat.le_of_ble_eq_true rfl⟩ ?_
  refine aw_iload_n 2 dX2_spend_11 rfl ?_
  obtain ⟨p6, hp6, hf⟩ := xbind hf
  obtain ⟨hk_7, hf⟩ := xifn hf
  obtain ⟨q8, hq8, hf⟩ := xbind hf
  refine aw_callV 0 q5 [.int a2] 1 hp6 (thC_ob (h := h) hk_7 (by decide)) rfl rfl (ctX1_take hl _ _ _ hq8) ⟨wl2 (i := 213) rfl rfl, ciX1_take⟩ (wl2 (i := 214) rfl rfl) (wl2 (i := 215) rfl rfl) dX2_spend_12 rfl rfl (Nat.le_of_ble_eq_true rfl) ⟨Nat.le_of_ble_eq_true rfl, Nat.le_of_ble_eq_true rfl⟩ ⟨Nat.le_of_ble_eq_true rfl, Nat.le_of_ble_eq_true rfl⟩ ?_
  refine aw_ifb_eq 20 dX2_spend_15 (by decide) (fun c9 => ?_) (fun c9 => ?_)
  · rw [if_pos c9] at hf
    refine aw_qload_n 0 dX2_spend_20 rfl ?_
    refine aw_qload_n 1 dX2_spend_21 rfl ?_
    refine aw_qload_n 1 dX2_spend_22 rfl ?_
    obtain ⟨hk_10, hf⟩ := xifn hf
    obtain ⟨q11, hq11, hf⟩ := xbind hf
    refine aw_callV 2 a1 [] 0 hp1 (thC_ob (h := q8.2) hk_10 (by decide)) rfl rfl (ctX3_wonAgainstMover hl _ _ hq11) ⟨wl2 (i := 218) rfl rfl, ciX3_wonAgainstMover⟩ (wl2 (i := 219) rfl rfl) (wl2 (i := 220) rfl rfl) dX2_spend_23 rfl rfl (by simp [cat_q, cat_i, cat_l, cat_r]) ⟨Nat.le_of_ble_eq_true rfl, Nat.le_of_ble_eq_true rfl⟩ ⟨Nat.le_of_ble_eq_true rfl, Nat.le_of_ble_eq_true rfl⟩ ?_
    obtain ⟨hk_12, hf⟩ := xifn hf
    obtain ⟨q13, hq13, hf⟩ := xbind hf
    refine aw_callV 1 (some t) [va_rf a1, .int q11] 2 rfl (thC_ob (h := q8.2) hk_12 (by decide)) rfl rfl (ctX2_end hl _ _ _ _ hq13) ⟨wl2 (i := 222) rfl rfl, ciX2_end⟩ (wl2 (i := 223) rfl rfl) (wl2 (i := 224) rfl rfl) dX2_spend_26 rfl rfl (Nat.le_of_ble_eq_true rfl) ⟨Nat.le_of_ble_eq_true rfl, Nat.le_of_ble_eq_true rfl⟩ ⟨Nat.le_of_ble_eq_true rfl, Nat.le_of_ble_eq_true rfl⟩ ?_
    refine aw_iconst (0 : Int32) dX2_spend_29 (by decide) ?_
    cases hf
    exact aw_zret dX2_spend_30 rfl rfl rfl rfl ⟨Nat.le_of_ble_eq_true rfl, Nat.le_of_ble_eq_true rfl⟩
  · rw [if_neg c9] at hf
    refine aw_iconst (1 : Int32) dX2_spend_18 (by decide) ?_
    cases hf
    exact aw_zret dX2_spend_19 rfl rfl rfl rfl ⟨Nat.le_of_ble_eq_true rfl, Nat.le_of_ble_eq_true rfl⟩
abbrev MX3_keptLiberties : xM := (RX3, cX3_keptLiberties, 2, (some .int), "keptLiberties")
abbrev rmX3_keptLiberties : Room := { frames := 0, cells := 0, slots := 0, locals := 0 }
theorem ciX3_keptLiberties : Cond.code yX3_keptLiberties cX3_keptLiberties 2 (some .int) ∈ wt ∧ Cond.initialized yX3_keptLiberties.cls ∈ wt ∧ (yX3_keptLiberties.cls ≠ "java/lang/invoke/MethodHandle" ∧ yX3_keptLiberties.cls ≠ "java/lang/invoke/VarHandle" ∧ (parseMethodDescriptor yX3_keptLiberties.desc).map (fun d => d.parameters.length) = some 1) := ⟨wl4 (i := 4) rfl rfl, wl1 (i := 14) rfl rfl, by decide +kernel, by decide +kernel, by decide +kernel⟩
def fX3_keptLiberties (h : TH) (t : Nat) (a1 : Int32) : Option (Int32) :=
  (if a1 < 0 then some (0 : Int32) else (if t_kd h t = 3 then (t_R h t 7).bind fun p3 => (if t_kd h p3 = 9 then (if a1 < (nI (t_ln h p3)) then (if xin a1 (t_ln h p3) = true then some (t_I h p3 a1.toNatClampNeg) else none) else some (0 : Int32)) else none) else none))
set_option maxHeartbeats 4000000 in
set_option maxRecDepth 100000 in
theorem ctX3_keptLiberties {l : Launch} {g : xG} (hl : l.stackTraces = false) {r : Int32} (h : TH) (t : Nat) (a1 : Int32) (hf : fX3_keptLiberties h t a1 = some r) : CT yX3_keptLiberties MX3_keptLiberties rmX3_keptLiberties l g [va_rf (some t), .int a1] (thE g h) (.inl (some (.int r))) (thE g h) := by
  rw [fX3_keptLiberties] at hf
  refine CT.of (lv0 := [(0, va_rf (some t)), (1, .int a1)]) (by decide +kernel) rfl rfl (by simp [lg_sl, cat_q, cat_i, cat_l, cat_r]) (by simp [lv_args, cat_q, cat_i, cat_l, cat_r]) hl ?_
  refine aw_iload_n 1 dX3_keptLiberties_0 rfl ?_
  refine aw_if_lt 13 dX3_keptLiberties_1 (by decide) (fun c1 => ?_) (fun c1 => ?_)
  · rw [if_pos c1] at hf
    refine aw_iconst (0 : Int32) dX3_keptLiberties_13 (by decide) ?_
    refine aw_goto 23 dX3_keptLiberties_14 (by decide) ?_
    cases hf
    exact aw_iret dX3_keptLiberties_23 rfl rfl rfl ⟨Nat.le_of_ble_eq_true rfl, Nat.le_of_ble_eq_true rfl⟩
  · rw [if_neg c1] at hf
    refine aw_iload_n 1 dX3_keptLiberties_4 rfl ?_
    refine aw_qload_n 0 dX3_keptLiberties_5 rfl ?_
    obtain ⟨hk_2, hf⟩ := xifn hf
    refine th_getR 2 7 inX3 rfl hk_2 rfl ⟨by decide, by decide, rfl⟩ (wl2 (i := 140) rfl rfl) dX3_keptLiberties_6 ?_
    obtain ⟨p3, hp3, hf⟩ := xbind hf
    obtain ⟨hk_4, hf⟩ := xifn hf
    refine th_alenI hp3 hk_4 dX3_keptLiberties_9 ?_
    refine aw_icmp_lt 17 dX3_keptLiberties_10 (by decide) (fun c5 => ?_) (fun c5 => ?_)
    · rw [if_pos c5] at hf
      refine aw_qload_n 0 dX3_keptLiberties_17 rfl ?_
      refine th_getR 2 7 inX3 rfl hk_2 rfl ⟨by decide, by decide, rfl⟩ (wl2 (i := 140) rfl rfl) dX3_keptLiberties_18 ?_
      refine aw_iload_n 1 dX3_keptLiberties_21 rfl ?_
      obtain ⟨hi6, hf⟩ := xifn hf
      refine th_iald hp3 hk_4 (xin_v hi6) dX3_keptLiberties_22 ?_
      cases hf
      exact aw_iret dX3_keptLiberties_23 rfl rfl rfl ⟨Nat.le_of_ble_eq_true rfl, Nat.le_of_ble_eq_true rfl⟩
    · rw [if_neg c5] at hf
      refine aw_iconst (0 : Int32) dX3_keptLiberties_13 (by decide) ?_
      refine aw_goto 23 dX3_keptLiberties_14 (by decide) ?_
      cases hf
      exact aw_iret dX3_keptLiberties_23 rfl rfl rfl ⟨Nat.le_of_ble_eq_true rfl, Nat.le_of_ble_eq_true rfl⟩
abbrev MX3_told : xM := (RX3, cX3_told, 1, (some .int), "told")
abbrev rmX3_told : Room := { frames := 0, cells := 0, slots := 0, locals := 0 }
theorem ciX3_told : Cond.code yX3_told cX3_told 1 (some .int) ∈ wt ∧ Cond.initialized yX3_told.cls ∈ wt ∧ (yX3_told.cls ≠ "java/lang/invoke/MethodHandle" ∧ yX3_told.cls ≠ "java/lang/invoke/VarHandle" ∧ (parseMethodDescriptor yX3_told.desc).map (fun d => d.parameters.length) = some 0) := ⟨wl3 (i := 22) rfl rfl, wl1 (i := 14) rfl rfl, by decide +kernel, by decide +kernel, by decide +kernel⟩
def fX3_told (h : TH) (t : Nat) : Option (Int32) :=
  (if t_kd h t = 3 then (if (t_I h t 9) = 0 then some (t_I h t 8) else some ((t_I h t 8) + (10 : Int32))) else none)
set_option maxHeartbeats 4000000 in
set_option maxRecDepth 100000 in
theorem ctX3_told {l : Launch} {g : xG} (hl : l.stackTraces = false) {r : Int32} (h : TH) (t : Nat) (hf : fX3_told h t = some r) : CT yX3_told MX3_told rmX3_told l g [va_rf (some t)] (thE g h) (.inl (some (.int r))) (thE g h) := by
  rw [fX3_told] at hf
  refine CT.of (lv0 := [(0, va_rf (some t))]) (by decide +kernel) rfl rfl (by simp [lg_sl, cat_q, cat_i, cat_l, cat_r]) (by simp [lv_args, cat_q, cat_i, cat_l, cat_r]) hl ?_
  refine aw_qload_n 0 dX3_told_0 rfl ?_
  obtain ⟨hk_1, hf⟩ := xifn hf
  refine th_getI 2 9 inX3 rfl hk_1 rfl ⟨by decide, by decide, rfl⟩ (wl2 (i := 143) rfl rfl) dX3_told_1 ?_
  refine aw_if_eq 17 dX3_told_4 (by decide) (fun c2 => ?_) (fun c2 => ?_)
  · rw [if_pos c2] at hf
    refine aw_qload_n 0 dX3_told_17 rfl ?_
    refine th_getI 2 8 inX3 rfl hk_1 rfl ⟨by decide, by decide, rfl⟩ (wl2 (i := 141) rfl rfl) dX3_told_18 ?_
    cases hf
    exact aw_iret dX3_told_21 rfl rfl rfl ⟨Nat.le_of_ble_eq_true rfl, Nat.le_of_ble_eq_true rfl⟩
  · rw [if_neg c2] at hf
    refine aw_qload_n 0 dX3_told_7 rfl ?_
    refine th_getI 2 8 inX3 rfl hk_1 rfl ⟨by decide, by decide, rfl⟩ (wl2 (i := 141) rfl rfl) dX3_told_8 ?_
    refine aw_bipush (10 : Int32) dX3_told_11 (by decide) ?_
    refine aw_iadd dX3_told_13 ?_
    refine aw_goto 21 dX3_told_14 (by decide) ?_
    cases hf
    exact aw_iret dX3_told_21 rfl rfl rfl ⟨Nat.le_of_ble_eq_true rfl, Nat.le_of_ble_eq_true rfl⟩
abbrev MX4_behind : xM := (RX4, cX4_behind, 3, (some (.object "AtariGarden$Position")), "behind")
abbrev rmX4_behind : Room := { frames := 0, cells := 0, slots := 0, locals := 0 }
theorem ciX4_behind : Cond.code yX4_behind cX4_behind 3 (some (.object "AtariGarden$Position")) ∈ wt ∧ Cond.initialized yX4_behind.cls ∈ wt ∧ (yX4_behind.cls ≠ "java/lang/invoke/MethodHandle" ∧ yX4_behind.cls ≠ "java/lang/invoke/VarHandle" ∧ (parseMethodDescriptor yX4_behind.desc).map (fun d => d.parameters.length) = some 1) := ⟨wl3 (i := 46) rfl rfl, wl1 (i := 15) rfl rfl, by decide +kernel, by decide +kernel, by decide +kernel⟩
def fX4_behind_2 : Nat → TH → Nat → Int32 → Option Nat → Option (Option Nat)
  | 0, _, _, _, _ => none
  | n + 1, h, t, a1, a2 =>
    (if a2 = none then some a2 else a2.bind fun p2 => (if t_kd h p2 = 4 then (if (t_I h p2 3) = a1 then some a2 else fX4_behind_2 n h t a1 (t_R h p2 5)) else none))
set_option maxHeartbeats 4000000 in
set_option maxRecDepth 100000 in
theorem wkX4_behind_2 {l : Launch} {g : xG} {x0 : xV} (hl : l.stackTraces = false) {r : Option Nat} : ∀ (n : Nat) (h : TH) (t : Nat) (a1 : Int32) (a2 : Option Nat), fX4_behind_2 n h t a1 a2 = some r → AW MX4_behind rmX4_behind l g x0 (.inl (some (va_rf r))) (thE g h) 0 0 (thE g h) 2 [(1, .int a1), (2, va_rf a2)] [] := by
  intro n
  induction n with
  | zero => intro h t a1 a2 hf; exact absurd hf (by simp [fX4_behind_2])
  | succ n hk2 =>
    intro h t a1 a2 hf
    rw [fX4_behind_2] at hf
    refine aw_qload_n 1 dX4_behind_2 rfl ?_
    refine aw_ifnull 22 dX4_behind_3 (by decide) (fun c1 => ?_) (fun c1 => ?_)
    · rw [if_pos c1] at hf
      refine aw_qload_n 1 dX4_behind_22 rfl ?_
      cases hf
      exact aw_aret "AtariGarden$Position" dX4_behind_23 rfl rfl rfl ⟨Nat.le_of_ble_eq_true rfl, Nat.le_of_ble_eq_true rfl⟩
    · rw [if_neg c1] at hf
      refine aw_qload_n 1 dX4_behind_6 rfl ?_
      obtain ⟨p2, hp2, hf⟩ := xbind hf
      obtain ⟨hk_3, hf⟩ := xifn hf
      refine th_getI 3 3 inX4 hp2 hk_3 rfl ⟨by decide, by decide, rfl⟩ (wl2 (i := 68) rfl rfl) dX4_behind_7 ?_
      refine aw_iload_n 0 dX4_behind_10 rfl ?_
      refine aw_icmp_eq 22 dX4_behind_11 (by decide) (fun c4 => ?_) (fun c4 => ?_)
      · rw [if_pos c4] at hf
        refine aw_qload_n 1 dX4_behind_22 rfl ?_
        cases hf
        exact aw_aret "AtariGarden$Position" dX4_behind_23 rfl rfl rfl ⟨Nat.le_of_ble_eq_true rfl, Nat.le_of_ble_eq_true rfl⟩
      · rw [if_neg c4] at hf
        refine aw_qload_n 1 dX4_behind_14 rfl ?_
        refine th_getR 3 5 inX4 hp2 hk_3 rfl ⟨by decide, by decide, rfl⟩ (wl2 (i := 73) rfl rfl) dX4_behind_15 ?_
        refine aw_qstore_n [(2, va_rf (t_R h p2 5)), (1, .int a1)] dX4_behind_18 rfl (by decide) rfl ?_
        refine aw_goto 2 dX4_behind_19 (by decide) ?_
        refine aw_lv [1, 0] rfl ?_
        exact hk2 _ _ _ _ hf
def fX4_behind (h : TH) (t : Nat) (a1 : Int32) : Option (Option Nat) :=
  fX4_behind_2 FU h t a1 (some t)
set_option maxHeartbeats 4000000 in
set_option maxRecDepth 100000 in
theorem ctX4_behind {l : Launch} {g : xG} (hl : l.stackTraces = false) {r : Option Nat} (h : TH) (t : Nat) (a1 : Int32) (hf : fX4_behind h t a1 = some r) : CT yX4_behind MX4_behind rmX4_behind l g [va_rf (some t), .int a1] (thE g h) (.inl (some (va_rf r))) (thE g h) := by
  rw [fX4_behind] at hf
  refine CT.of (lv0 := [(0, va_rf (some t)), (1, .int a1)]) (by decide +kernel) rfl rfl (by simp [lg_sl, cat_q, cat_i, cat_l, cat_r]) (by simp [lv_args, cat_q, cat_i, cat_l, cat_r]) hl ?_
  refine aw_qload_n 0 dX4_behind_0 rfl ?_
  refine aw_qstore_n [(2, va_rf (some t)), (0, va_rf (some t)), (1, .int a1)] dX4_behind_1 rfl (by decide) rfl ?_
  refine aw_lv [2, 0] rfl ?_
  exact wkX4_behind_2 hl _ _ _ _ _ hf
abbrev MX5_answers : xM := (RX5, cX5_answers, 17, (some .long), "answers")
abbrev rmX5_answers : Room := { frames := 2, cells := 0, slots := 0, locals := 51 }
theorem ciX5_answers : Cond.code yX5_answers cX5_answers 17 (some .long) ∈ wt ∧ Cond.initialized yX5_answers.cls ∈ wt ∧ (yX5_answers.cls ≠ "java/lang/invoke/MethodHandle" ∧ yX5_answers.cls ≠ "java/lang/invoke/VarHandle" ∧ (parseMethodDescriptor yX5_answers.desc).map (fun d => d.parameters.length) = some 3) := ⟨wl3 (i := 188) rfl rfl, wl1 (i := 17) rfl rfl, by decide +kernel, by decide +kernel, by decide +kernel⟩
def fX5_answers_71 (k26 : Int64 → Int64 → Int64 → Int64 → Int32 → Option (Int64)) (a2 : Int64) (a6 : Int64) (a8 : Int64) (a10 : Int64) (a12 : Int32) (a13 : Int64) : Option (Int64) :=
  k26 a2 a6 a8 (a10 &&& (a13 ^^^ (-1 : Int64))) (a12 + (1 : Int32))
set_option maxHeartbeats 4000000 in
set_option maxRecDepth 100000 in
theorem wkX5_answers_71 {l : Launch} {g : xG} {x0 : xV} {x : xV} (hl : l.stackTraces = false) {r : Int64} (k26 : Int64 → Int64 → Int64 → Int64 → Int32 → Option (Int64)) (hk26 : ∀ (a2 : Int64) (a6 : Int64) (a8 : Int64) (a10 : Int64) (a12 : Int32), k26 a2 a6 a8 a10 a12 = some r → AW MX5_answers rmX5_answers l g x0 (.inl (some (.long r))) x 0 0 x 26 [(2, .long a2), (6, .long a6), (8, .long a8), (10, .long a10), (12, .int a12)] []) (a2 : Int64) (a6 : Int64) (a8 : Int64) (a10 : Int64) (a12 : Int32) (a13 : Int64) (hf : fX5_answers_71 k26 a2 a6 a8 a10 a12 a13 = some r) : AW MX5_answers rmX5_answers l g x0 (.inl (some (.long r))) x 0 0 x 71 [(2, .long a2), (6, .long a6), (8, .long a8), (10, .long a10), (12, .int a12), (13, .long a13)] [] := by
  rw [fX5_answers_71] at hf
  refine aw_lload 3 dX5_answers_71 rfl ?_
  refine aw_lload 5 dX5_answers_73 rfl ?_
  refine aw_ldc2 (-1 : Int64) rfl (wl3 (i := 179) rfl rfl) dX5_answers_75 ?_
  refine aw_lxor dX5_answers_78 ?_
  refine aw_land dX5_answers_79 ?_
  refine aw_lstore [(10, .long (a10 &&& (a13 ^^^ (-1 : Int64)))), (2, .long a2), (6, .long a6), (8, .long a8), (12, .int a12), (13, .long a13)] dX5_answers_80 (by decide) rfl ?_
  refine aw_iinc [(12, .int (a12 + (1 : Int32))), (10, .long (a10 &&& (a13 ^^^ (-1 : Int64)))), (2, .long a2), (6, .long a6), (8, .long a8), (13, .long a13)] 4 dX5_answers_82 rfl rfl (by decide) rfl ?_
  refine aw_goto 26 dX5_answers_85 (by decide) ?_
  refine aw_lv [2, 3, 4, 1, 0] rfl ?_
  exact hk26 _ _ _ _ _ hf
def fX5_answers_26 : Nat → Int64 → Int64 → Int64 → Int64 → Int32 → Option (Int64)
  | 0, _, _, _, _, _ => none
  | n + 1, a2, a6, a8, a10, a12 =>
    (if (49 : Int32) ≤ a12 then some a8 else (fX0_flood (a10 &&& (x_shl (1 : Int64) a12)) a2).bind fun q2 => (fX0_libertiesOf q2 a6).bind fun q3 => (fJ_bitCount q3).bind fun q4 => (if q4 = (1 : Int32) then fX5_answers_71 (fX5_answers_26 n) a2 a6 (a8 ||| q3) a10 a12 q2 else fX5_answers_71 (fX5_answers_26 n) a2 a6 a8 a10 a12 q2))
set_option maxHeartbeats 4000000 in
set_option maxRecDepth 100000 in
theorem wkX5_answers_26 {l : Launch} {g : xG} {x0 : xV} {x : xV} (hl : l.stackTraces = false) {r : Int64} : ∀ (n : Nat) (a2 : Int64) (a6 : Int64) (a8 : Int64) (a10 : Int64) (a12 : Int32), fX5_answers_26 n a2 a6 a8 a10 a12 = some r → AW MX5_answers rmX5_answers l g x0 (.inl (some (.long r))) x 0 0 x 26 [(2, .long a2), (6, .long a6), (8, .long a8), (10, .long a10), (12, .int a12)] [] := by
  intro n
  induction n with
  | zero => intro a2 a6 a8 a10 a12 hf; exact absurd hf (by simp [fX5_answers_26])
  | succ n hk26 =>
    intro a2 a6 a8 a10 a12 hf
    rw [fX5_answers_26] at hf
    refine aw_iload 4 dX5_answers_26 rfl ?_
    refine aw_bipush (49 : Int32) dX5_answers_28 (by decide) ?_
    refine aw_icmp_ge 88 dX5_answers_30 (by decide) (fun c1 => ?_) (fun c1 => ?_)
    · rw [if_pos c1] at hf
      refine aw_lload 2 dX5_answers_88 rfl ?_
      cases hf
      exact aw_lret dX5_answers_90 rfl rfl rfl ⟨Nat.le_of_ble_eq_true rfl, Nat.le_of_ble_eq_true rfl⟩
    · rw [if_neg c1] at hf
      refine aw_lload 3 dX5_answers_33 rfl ?_
      refine aw_lconst (1 : Int64) dX5_answers_35 (by decide) ?_
      refine aw_iload 4 dX5_answers_36 rfl ?_
      refine aw_lshl dX5_answers_38 ?_
      refine aw_land dX5_answers_39 ?_
      refine aw_lload_n 0 dX5_answers_40 rfl ?_
      obtain ⟨q2, hq2, hf⟩ := xbind hf
      refine aw_callS [.long (a10 &&& (x_shl (1 : Int64) a12)), .long a2] 2 (ctX0_flood hl _ _ hq2) ⟨wl3 (i := 175) rfl rfl, ciX0_flood⟩ (wl2 (i := 112) rfl rfl) dX5_answers_41 rfl rfl (Nat.le_of_ble_eq_true rfl) ⟨Nat.le_of_ble_eq_true rfl, Nat.le_of_ble_eq_true rfl⟩ ⟨Nat.le_of_ble_eq_true rfl, Nat.le_of_ble_eq_true rfl⟩ ?_
      refine aw_lstore [(13, .long q2), (2, .long a2), (6, .long a6), (8, .long a8), (10, .long a10), (12, .int a12)] dX5_answers_44 (by decide) rfl ?_
      refine aw_lload 0 dX5_answers_46 rfl ?_
      refine aw_lload 2 dX5_answers_48 rfl ?_
      obtain ⟨q3, hq3, hf⟩ := xbind hf
      refine aw_callS [.long q2, .long a6] 2 (ctX0_libertiesOf hl _ _ hq3) ⟨wl3 (i := 176) rfl rfl, ciX0_libertiesOf⟩ (wl2 (i := 116) rfl rfl) dX5_answers_50 rfl rfl (Nat.le_of_ble_eq_true rfl) ⟨Nat.le_of_ble_eq_true rfl, Nat.le_of_ble_eq_true rfl⟩ ⟨Nat.le_of_ble_eq_true rfl, Nat.le_of_ble_eq_true rfl⟩ ?_
      refine aw_lstore [(15, .long q3), (13, .long q2), (2, .long a2), (6, .long a6), (8, .long a8), (10, .long a10), (12, .int a12)] dX5_answers_53 (by decide) rfl ?_
      refine aw_lload 0 dX5_answers_55 rfl ?_
      obtain ⟨q4, hq4, hf⟩ := xbind hf
      refine aw_callS [.long q3] 1 (ctJ_bitCount hl _ hq4) ⟨wl3 (i := 177) rfl rfl, ciJ_bitCount⟩ (wl2 (i := 120) rfl rfl) dX5_answers_57 rfl rfl (Nat.le_of_ble_eq_true rfl) ⟨Nat.le_of_ble_eq_true rfl, Nat.le_of_ble_eq_true rfl⟩ ⟨Nat.le_of_ble_eq_true rfl, Nat.le_of_ble_eq_true rfl⟩ ?_
      refine aw_iconst (1 : Int32) dX5_answers_60 (by decide) ?_
      refine aw_icmp_ne 71 dX5_answers_61 (by decide) (fun c5 => ?_) (fun c5 => ?_)
      · rw [if_neg c5] at hf
        refine aw_lv [2, 3, 4, 5, 6, 1] rfl ?_
        exact wkX5_answers_71 hl _ hk26 _ _ _ _ _ _ hf
      · rw [if_pos c5] at hf
        refine aw_lload 4 dX5_answers_64 rfl ?_
        refine aw_lload 0 dX5_answers_66 rfl ?_
        refine aw_lor dX5_answers_68 ?_
        refine aw_lstore [(8, .long (a8 ||| q3)), (15, .long q3), (13, .long q2), (2, .long a2), (6, .long a6), (10, .long a10), (12, .int a12)] dX5_answers_69 (by decide) rfl ?_
        refine aw_lv [3, 4, 0, 5, 6, 2] rfl ?_
        exact wkX5_answers_71 hl _ hk26 _ _ _ _ _ _ hf
def fX5_answers (a0 : Int64) (a2 : Int64) (a4 : Int64) : Option (Int64) :=
  (fX0_libertiesOf a4 (a0 ||| a2)).bind fun q1 => (fX0_around a4).bind fun q2 => fX5_answers_26 FU a2 (a0 ||| a2) q1 (q2 &&& a2) (0 : Int32)
set_option maxHeartbeats 4000000 in
set_option maxRecDepth 100000 in
theorem ctX5_answers {l : Launch} {g : xG} {x : xV} (hl : l.stackTraces = false) {r : Int64} (a0 : Int64) (a2 : Int64) (a4 : Int64) (hf : fX5_answers a0 a2 a4 = some r) : CT yX5_answers MX5_answers rmX5_answers l g [.long a0, .long a2, .long a4] x (.inl (some (.long r))) x := by
  rw [fX5_answers] at hf
  refine CT.of (lv0 := [(0, .long a0), (2, .long a2), (4, .long a4)]) (by decide +kernel) rfl rfl (Nat.le_of_ble_eq_true rfl) rfl hl ?_
  refine aw_lload_n 0 dX5_answers_0 rfl ?_
  refine aw_lload_n 1 dX5_answers_1 rfl ?_
  refine aw_lor dX5_answers_2 ?_
  refine aw_lstore [(6, .long (a0 ||| a2)), (0, .long a0), (2, .long a2), (4, .long a4)] dX5_answers_3 (by decide) rfl ?_
  refine aw_lload 3 dX5_answers_5 rfl ?_
  refine aw_lload 0 dX5_answers_7 rfl ?_
  obtain ⟨q1, hq1, hf⟩ := xbind hf
  refine aw_callS [.long a4, .long (a0 ||| a2)] 2 (ctX0_libertiesOf hl _ _ hq1) ⟨wl3 (i := 176) rfl rfl, ciX0_libertiesOf⟩ (wl2 (i := 116) rfl rfl) dX5_answers_9 rfl rfl (Nat.le_of_ble_eq_true rfl) ⟨Nat.le_of_ble_eq_true rfl, Nat.le_of_ble_eq_true rfl⟩ ⟨Nat.le_of_ble_eq_true rfl, Nat.le_of_ble_eq_true rfl⟩ ?_
  refine aw_lstore [(8, .long q1), (6, .long (a0 ||| a2)), (0, .long a0), (2, .long a2), (4, .long a4)] dX5_answers_12 (by decide) rfl ?_
  refine aw_lload 4 dX5_answers_14 rfl ?_
  obtain ⟨q2, hq2, hf⟩ := xbind hf
  refine aw_callS [.long a4] 1 (ctX0_around hl _ hq2) ⟨wl3 (i := 189) rfl rfl, ciX0_around⟩ (wl2 (i := 102) rfl rfl) dX5_answers_16 rfl rfl (Nat.le_of_ble_eq_true rfl) ⟨Nat.le_of_ble_eq_true rfl, Nat.le_of_ble_eq_true rfl⟩ ⟨Nat.le_of_ble_eq_true rfl, Nat.le_of_ble_eq_true rfl⟩ ?_
  refine aw_lload_n 3 dX5_answers_19 rfl ?_
  refine aw_land dX5_answers_20 ?_
  refine aw_lstore [(10, .long (q2 &&& a2)), (8, .long q1), (6, .long (a0 ||| a2)), (0, .long a0), (2, .long a2), (4, .long a4)] dX5_answers_21 (by decide) rfl ?_
  refine aw_iconst (0 : Int32) dX5_answers_23 (by decide) ?_
  refine aw_istore [(12, .int (0 : Int32)), (10, .long (q2 &&& a2)), (8, .long q1), (6, .long (a0 ||| a2)), (0, .long a0), (2, .long a2), (4, .long a4)] dX5_answers_24 (by decide) rfl ?_
  refine aw_lv [5, 3, 2, 1, 0] rfl ?_
  exact wkX5_answers_26 hl _ _ _ _ _ _ hf
abbrev MX5_caught : xM := (RX5, cX5_caught, 18, (some .boolean), "caught")
theorem ciX5_caught : Cond.code yX5_caught cX5_caught 18 (some .boolean) ∈ wt ∧ Cond.initialized yX5_caught.cls ∈ wt ∧ (yX5_caught.cls ≠ "java/lang/invoke/MethodHandle" ∧ yX5_caught.cls ≠ "java/lang/invoke/VarHandle" ∧ (parseMethodDescriptor yX5_caught.desc).map (fun d => d.parameters.length) = some 5) := ⟨wl3 (i := 174) rfl rfl, wl1 (i := 17) rfl rfl, by decide +kernel, by decide +kernel, by decide +kernel⟩
abbrev MX5_caughtForEachAnswer : xM := (RX5, cX5_caughtForEachAnswer, 16, (some .boolean), "caughtForEachAnswer")
theorem ciX5_caughtForEachAnswer : Cond.code yX5_caughtForEachAnswer cX5_caughtForEachAnswer 16 (some .boolean) ∈ wt ∧ Cond.initialized yX5_caughtForEachAnswer.cls ∈ wt ∧ (yX5_caughtForEachAnswer.cls ≠ "java/lang/invoke/MethodHandle" ∧ yX5_caughtForEachAnswer.cls ≠ "java/lang/invoke/VarHandle" ∧ (parseMethodDescriptor yX5_caughtForEachAnswer.desc).map (fun d => d.parameters.length) = some 5) := ⟨wl3 (i := 185) rfl rfl, wl1 (i := 17) rfl rfl, by decide +kernel, by decide +kernel, by decide +kernel⟩
def fX5_caughtForEachAnswer_89 (kr : Int64 → Int64 → Int64 → Int32 → Int32 → Option Bool) (k19 : Int64 → Int64 → Int64 → Int32 → Int32 → Int64 → Int32 → Int32 → Option (Bool)) (a0 : Int64) (a2 : Int64) (a4 : Int64) (a6 : Int32) (a7 : Int32) (a8 : Int64) (a10 : Int32) (a11 : Int32) : Option (Bool) :=
  k19 a0 a2 a4 a6 a7 a8 a10 (a11 + (1 : Int32))
set_option maxHeartbeats 4000000 in
set_option maxRecDepth 100000 in
theorem wkX5_caughtForEachAnswer_89 {l : Launch} {g : xG} {x0 : xV} {x : xV} (hl : l.stackTraces = false) {F L F2 L2 : Nat} (hF : 10 ≤ F) (hL : 500 ≤ L) (hF2 : F2 + 1 ≤ F) (hL2 : 8 + (18 + 11) + L2 ≤ L) {kr : Int64 → Int64 → Int64 → Int32 → Int32 → Option Bool} (hkr : ∀ (b0 b2 b4 : Int64) (b6 b7 : Int32) (r : Bool), kr b0 b2 b4 b6 b7 = some r → CT yX5_caught MX5_caught { frames := F2, cells := 0, slots := 0, locals := L2 } l g [.long b0, .long b2, .long b4, .int b6, .int b7] x (.inl (some (.int (bi r)))) x) {r : Bool} (k19 : Int64 → Int64 → Int64 → Int32 → Int32 → Int64 → Int32 → Int32 → Option (Bool)) (hk19 : ∀ (a0 : Int64) (a2 : Int64) (a4 : Int64) (a6 : Int32) (a7 : Int32) (a8 : Int64) (a10 : Int32) (a11 : Int32), k19 a0 a2 a4 a6 a7 a8 a10 a11 = some r → AW MX5_caughtForEachAnswer { frames := F, cells := 0, slots := 0, locals := L } l g x0 (.inl (some (.int (bi r)))) x 0 0 x 19 [(0, .long a0), (2, .long a2), (4, .long a4), (6, .int a6), (7, .int a7), (8, .long a8), (10, .int a10), (11, .int a11)] []) (a0 : Int64) (a2 : Int64) (a4 : Int64) (a6 : Int32) (a7 : Int32) (a8 : Int64) (a10 : Int32) (a11 : Int32) (hf : fX5_caughtForEachAnswer_89 kr k19 a0 a2 a4 a6 a7 a8 a10 a11 = some r) : AW MX5_caughtForEachAnswer { frames := F, cells := 0, slots := 0, locals := L } l g x0 (.inl (some (.int (bi r)))) x 0 0 x 89 [(0, .long a0), (2, .long a2), (4, .long a4), (6, .int a6), (7, .int a7), (8, .long a8), (10, .int a10), (11, .int a11)] [] := by
  rw [fX5_caughtForEachAnswer_89] at hf
  refine aw_iinc [(11, .int (a11 + (1 : Int32))), (0, .long a0), (2, .long a2), (4, .long a4), (6, .int a6), (7, .int a7), (8, .long a8), (10, .int a10)] 7 dX5_caughtForEachAnswer_89 rfl rfl (by decide) rfl ?_
  refine aw_goto 19 dX5_caughtForEachAnswer_92 (by decide) ?_
  refine aw_lv [1, 2, 3, 4, 5, 6, 7, 0] rfl ?_
  exact hk19 _ _ _ _ _ _ _ _ hf
def fX5_caughtForEachAnswer_55 (kr : Int64 → Int64 → Int64 → Int32 → Int32 → Option Bool) (k19 : Int64 → Int64 → Int64 → Int32 → Int32 → Int64 → Int32 → Int32 → Option (Bool)) (a0 : Int64) (a2 : Int64) (a4 : Int64) (a6 : Int32) (a7 : Int32) (a8 : Int64) (a10 : Int32) (a11 : Int32) (a12 : Int64) (s0 : Int64) : Option (Bool) :=
  (if s0 = (-1 : Int64) then fX5_caughtForEachAnswer_89 kr k19 a0 a2 a4 a6 a7 a8 a10 a11 else (kr (a0 ||| a12) s0 a4 a6 a7).bind fun q2 => (if q2 = false then some false else fX5_caughtForEachAnswer_89 kr k19 a0 a2 a4 a6 a7 a8 (1 : Int32) a11))
set_option maxHeartbeats 4000000 in
set_option maxRecDepth 100000 in
theorem wkX5_caughtForEachAnswer_55 {l : Launch} {g : xG} {x0 : xV} {x : xV} (hl : l.stackTraces = false) {F L F2 L2 : Nat} (hF : 10 ≤ F) (hL : 500 ≤ L) (hF2 : F2 + 1 ≤ F) (hL2 : 8 + (18 + 11) + L2 ≤ L) {kr : Int64 → Int64 → Int64 → Int32 → Int32 → Option Bool} (hkr : ∀ (b0 b2 b4 : Int64) (b6 b7 : Int32) (r : Bool), kr b0 b2 b4 b6 b7 = some r → CT yX5_caught MX5_caught { frames := F2, cells := 0, slots := 0, locals := L2 } l g [.long b0, .long b2, .long b4, .int b6, .int b7] x (.inl (some (.int (bi r)))) x) {r : Bool} (k19 : Int64 → Int64 → Int64 → Int32 → Int32 → Int64 → Int32 → Int32 → Option (Bool)) (hk19 : ∀ (a0 : Int64) (a2 : Int64) (a4 : Int64) (a6 : Int32) (a7 : Int32) (a8 : Int64) (a10 : Int32) (a11 : Int32), k19 a0 a2 a4 a6 a7 a8 a10 a11 = some r → AW MX5_caughtForEachAnswer { frames := F, cells := 0, slots := 0, locals := L } l g x0 (.inl (some (.int (bi r)))) x 0 0 x 19 [(0, .long a0), (2, .long a2), (4, .long a4), (6, .int a6), (7, .int a7), (8, .long a8), (10, .int a10), (11, .int a11)] []) (a0 : Int64) (a2 : Int64) (a4 : Int64) (a6 : Int32) (a7 : Int32) (a8 : Int64) (a10 : Int32) (a11 : Int32) (a12 : Int64) (s0 : Int64) (hf : fX5_caughtForEachAnswer_55 kr k19 a0 a2 a4 a6 a7 a8 a10 a11 a12 s0 = some r) : AW MX5_caughtForEachAnswer { frames := F, cells := 0, slots := 0, locals := L } l g x0 (.inl (some (.int (bi r)))) x 0 0 x 55 [(0, .long a0), (2, .long a2), (4, .long a4), (6, .int a6), (7, .int a7), (8, .long a8), (10, .int a10), (11, .int a11), (12, .long a12)] [.long s0] := by
  rw [fX5_caughtForEachAnswer_55] at hf
  refine aw_lstore [(14, .long s0), (0, .long a0), (2, .long a2), (4, .long a4), (6, .int a6), (7, .int a7), (8, .long a8), (10, .int a10), (11, .int a11), (12, .long a12)] dX5_caughtForEachAnswer_55 (by decide) rfl ?_
  refine aw_lload 0 dX5_caughtForEachAnswer_57 rfl ?_
  refine aw_ldc2 (-1 : Int64) rfl (wl3 (i := 179) rfl rfl) dX5_caughtForEachAnswer_59 ?_
  refine aw_lcmp_eq 89 dX5_caughtForEachAnswer_62 dX5_caughtForEachAnswer_63 (by decide) (fun c1 => ?_) (fun c1 => ?_)
  · rw [if_pos c1] at hf
    refine aw_lv [1, 2, 3, 4, 5, 6, 7, 8] rfl ?_
    exact wkX5_caughtForEachAnswer_89 hl hF hL hF2 hL2 hkr _ hk19 _ _ _ _ _ _ _ _ hf
  · rw [if_neg c1] at hf
    refine aw_iconst (1 : Int32) dX5_caughtForEachAnswer_66 (by decide) ?_
    refine aw_istore [(10, .int (1 : Int32)), (14, .long s0), (0, .long a0), (2, .long a2), (4, .long a4), (6, .int a6), (7, .int a7), (8, .long a8), (11, .int a11), (12, .long a12)] dX5_caughtForEachAnswer_67 (by decide) rfl ?_
    refine aw_lload_n 2 dX5_caughtForEachAnswer_69 rfl ?_
    refine aw_lload 9 dX5_caughtForEachAnswer_70 rfl ?_
    refine aw_lor dX5_caughtForEachAnswer_72 ?_
    refine aw_lload 1 dX5_caughtForEachAnswer_73 rfl ?_
    refine aw_lload 4 dX5_caughtForEachAnswer_75 rfl ?_
    refine aw_iload 5 dX5_caughtForEachAnswer_77 rfl ?_
    refine aw_iload 6 dX5_caughtForEachAnswer_79 rfl ?_
    obtain ⟨q2, hq2, hf⟩ := xbind hf
    refine aw_callS [.long (a0 ||| a12), .long s0, .long a4, .int a6, .int a7] 5 (hkr _ _ _ _ _ _ hq2) ⟨wl3 (i := 190) rfl rfl, ciX5_caught⟩ (wl3 (i := 173) rfl rfl) dX5_caughtForEachAnswer_81 rfl rfl (Nat.le_of_ble_eq_true rfl) ⟨hF2, hL2⟩ ⟨Nat.le_of_ble_eq_true rfl, Nat.le_of_ble_eq_true rfl⟩ ?_
    refine aw_ifb_ne 89 dX5_caughtForEachAnswer_84 (by decide) (fun c3 => ?_) (fun c3 => ?_)
    · rw [if_neg c3] at hf
      refine aw_lv [2, 3, 4, 5, 6, 7, 0, 8] rfl ?_
      exact wkX5_caughtForEachAnswer_89 hl hF hL hF2 hL2 hkr _ hk19 _ _ _ _ _ _ _ _ hf
    · rw [if_pos c3] at hf
      refine aw_iconst (0 : Int32) dX5_caughtForEachAnswer_87 (by decide) ?_
      cases hf
      exact aw_zret dX5_caughtForEachAnswer_88 rfl rfl rfl rfl ⟨Nat.le_of_ble_eq_true rfl, Nat.le_of_ble_eq_true rfl⟩
def fX5_caughtForEachAnswer_19 (kr : Int64 → Int64 → Int64 → Int32 → Int32 → Option Bool) : Nat → Int64 → Int64 → Int64 → Int32 → Int32 → Int64 → Int32 → Int32 → Option (Bool)
  | 0, _, _, _, _, _, _, _, _ => none
  | n + 1, a0, a2, a4, a6, a7, a8, a10, a11 =>
    (if (49 : Int32) ≤ a11 then (if a10 = 0 then (kr a0 a2 a4 a6 a7).bind fun q3 => (if q3 = false then some false else some true) else some true) else (if (a8 &&& (x_shl (1 : Int64) a11)) = (0 : Int64) then fX5_caughtForEachAnswer_55 kr (fX5_caughtForEachAnswer_19 kr n) a0 a2 a4 a6 a7 a8 a10 a11 (a8 &&& (x_shl (1 : Int64) a11)) (-1 : Int64) else (fX0_leftBehind a0 a2 (a8 &&& (x_shl (1 : Int64) a11))).bind fun q6 => fX5_caughtForEachAnswer_55 kr (fX5_caughtForEachAnswer_19 kr n) a0 a2 a4 a6 a7 a8 a10 a11 (a8 &&& (x_shl (1 : Int64) a11)) q6))
set_option maxHeartbeats 4000000 in
set_option maxRecDepth 100000 in
theorem wkX5_caughtForEachAnswer_19 {l : Launch} {g : xG} {x0 : xV} {x : xV} (hl : l.stackTraces = false) {F L F2 L2 : Nat} (hF : 10 ≤ F) (hL : 500 ≤ L) (hF2 : F2 + 1 ≤ F) (hL2 : 8 + (18 + 11) + L2 ≤ L) {kr : Int64 → Int64 → Int64 → Int32 → Int32 → Option Bool} (hkr : ∀ (b0 b2 b4 : Int64) (b6 b7 : Int32) (r : Bool), kr b0 b2 b4 b6 b7 = some r → CT yX5_caught MX5_caught { frames := F2, cells := 0, slots := 0, locals := L2 } l g [.long b0, .long b2, .long b4, .int b6, .int b7] x (.inl (some (.int (bi r)))) x) {r : Bool} : ∀ (n : Nat) (a0 : Int64) (a2 : Int64) (a4 : Int64) (a6 : Int32) (a7 : Int32) (a8 : Int64) (a10 : Int32) (a11 : Int32), fX5_caughtForEachAnswer_19 kr n a0 a2 a4 a6 a7 a8 a10 a11 = some r → AW MX5_caughtForEachAnswer { frames := F, cells := 0, slots := 0, locals := L } l g x0 (.inl (some (.int (bi r)))) x 0 0 x 19 [(0, .long a0), (2, .long a2), (4, .long a4), (6, .int a6), (7, .int a7), (8, .long a8), (10, .int a10), (11, .int a11)] [] := by
  intro n
  induction n with
  | zero => intro a0 a2 a4 a6 a7 a8 a10 a11 hf; exact absurd hf (by simp [fX5_caughtForEachAnswer_19])
  | succ n hk19 =>
    intro a0 a2 a4 a6 a7 a8 a10 a11 hf
    rw [fX5_caughtForEachAnswer_19] at hf
    refine aw_iload 7 dX5_caughtForEachAnswer_19 rfl ?_
    refine aw_bipush (49 : Int32) dX5_caughtForEachAnswer_21 (by decide) ?_
    refine aw_icmp_ge 95 dX5_caughtForEachAnswer_23 (by decide) (fun c1 => ?_) (fun c1 => ?_)
    · rw [if_pos c1] at hf
      refine aw_iload 6 dX5_caughtForEachAnswer_95 rfl ?_
      refine aw_if_ne 114 dX5_caughtForEachAnswer_97 (by decide) (fun c2 => ?_) (fun c2 => ?_)
      · rw [if_neg c2] at hf
        refine aw_iconst (1 : Int32) dX5_caughtForEachAnswer_114 (by decide) ?_
        refine aw_goto 119 dX5_caughtForEachAnswer_115 (by decide) ?_
        cases hf
        exact aw_zret dX5_caughtForEachAnswer_119 rfl rfl rfl rfl ⟨Nat.le_of_ble_eq_true rfl, Nat.le_of_ble_eq_true rfl⟩
      · rw [if_pos c2] at hf
        refine aw_lload_n 0 dX5_caughtForEachAnswer_100 rfl ?_
        refine aw_lload_n 1 dX5_caughtForEachAnswer_101 rfl ?_
        refine aw_lload 2 dX5_caughtForEachAnswer_102 rfl ?_
        refine aw_iload 3 dX5_caughtForEachAnswer_104 rfl ?_
        refine aw_iload 4 dX5_caughtForEachAnswer_106 rfl ?_
        obtain ⟨q3, hq3, hf⟩ := xbind hf
        refine aw_callS [.long a0, .long a2, .long a4, .int a6, .int a7] 5 (hkr _ _ _ _ _ _ hq3) ⟨wl3 (i := 190) rfl rfl, ciX5_caught⟩ (wl3 (i := 173) rfl rfl) dX5_caughtForEachAnswer_108 rfl rfl (Nat.le_of_ble_eq_true rfl) ⟨hF2, hL2⟩ ⟨Nat.le_of_ble_eq_true rfl, Nat.le_of_ble_eq_true rfl⟩ ?_
        refine aw_ifb_eq 118 dX5_caughtForEachAnswer_111 (by decide) (fun c4 => ?_) (fun c4 => ?_)
        · rw [if_pos c4] at hf
          refine aw_iconst (0 : Int32) dX5_caughtForEachAnswer_118 (by decide) ?_
          cases hf
          exact aw_zret dX5_caughtForEachAnswer_119 rfl rfl rfl rfl ⟨Nat.le_of_ble_eq_true rfl, Nat.le_of_ble_eq_true rfl⟩
        · rw [if_neg c4] at hf
          refine aw_iconst (1 : Int32) dX5_caughtForEachAnswer_114 (by decide) ?_
          refine aw_goto 119 dX5_caughtForEachAnswer_115 (by decide) ?_
          cases hf
          exact aw_zret dX5_caughtForEachAnswer_119 rfl rfl rfl rfl ⟨Nat.le_of_ble_eq_true rfl, Nat.le_of_ble_eq_true rfl⟩
    · rw [if_neg c1] at hf
      refine aw_lload 5 dX5_caughtForEachAnswer_26 rfl ?_
      refine aw_lconst (1 : Int64) dX5_caughtForEachAnswer_28 (by decide) ?_
      refine aw_iload 7 dX5_caughtForEachAnswer_29 rfl ?_
      refine aw_lshl dX5_caughtForEachAnswer_31 ?_
      refine aw_land dX5_caughtForEachAnswer_32 ?_
      refine aw_lstore [(12, .long (a8 &&& (x_shl (1 : Int64) a11))), (0, .long a0), (2, .long a2), (4, .long a4), (6, .int a6), (7, .int a7), (8, .long a8), (10, .int a10), (11, .int a11)] dX5_caughtForEachAnswer_33 (by decide) rfl ?_
      refine aw_lload 0 dX5_caughtForEachAnswer_35 rfl ?_
      refine aw_lconst (0 : Int64) dX5_caughtForEachAnswer_37 (by decide) ?_
      refine aw_lcmp_ne 48 dX5_caughtForEachAnswer_38 dX5_caughtForEachAnswer_39 (by decide) (fun c5 => ?_) (fun c5 => ?_)
      · rw [if_neg c5] at hf
        refine aw_lload_n 1 dX5_caughtForEachAnswer_48 rfl ?_
        refine aw_lload_n 2 dX5_caughtForEachAnswer_49 rfl ?_
        refine aw_lload 0 dX5_caughtForEachAnswer_50 rfl ?_
        obtain ⟨q6, hq6, hf⟩ := xbind hf
        refine aw_callS [.long a0, .long a2, .long (a8 &&& (x_shl (1 : Int64) a11))] 3 (ctX0_leftBehind hl _ _ _ hq6) ⟨wl3 (i := 178) rfl rfl, ciX0_leftBehind⟩ (wl2 (i := 195) rfl rfl) dX5_caughtForEachAnswer_52 rfl rfl (Nat.le_of_ble_eq_true rfl) ⟨Nat.le_trans (show _ ≤ 10 from Nat.le_of_ble_eq_true rfl) hF, Nat.le_trans (show _ ≤ 500 from Nat.le_of_ble_eq_true rfl) hL⟩ ⟨Nat.le_of_ble_eq_true rfl, Nat.le_of_ble_eq_true rfl⟩ ?_
        refine aw_lv [1, 2, 3, 4, 5, 6, 7, 8, 0] rfl ?_
        exact wkX5_caughtForEachAnswer_55 hl hF hL hF2 hL2 hkr _ hk19 _ _ _ _ _ _ _ _ _ _ hf
      · rw [if_pos c5] at hf
        refine aw_ldc2 (-1 : Int64) rfl (wl3 (i := 179) rfl rfl) dX5_caughtForEachAnswer_42 ?_
        refine aw_goto 55 dX5_caughtForEachAnswer_45 (by decide) ?_
        refine aw_lv [1, 2, 3, 4, 5, 6, 7, 8, 0] rfl ?_
        exact wkX5_caughtForEachAnswer_55 hl hF hL hF2 hL2 hkr _ hk19 _ _ _ _ _ _ _ _ _ _ hf
def fX5_caughtForEachAnswer (kr : Int64 → Int64 → Int64 → Int32 → Int32 → Option Bool) (a0 : Int64) (a2 : Int64) (a4 : Int64) (a6 : Int32) (a7 : Int32) : Option (Bool) :=
  (fX0_flood a4 a0).bind fun q1 => (fX5_answers a0 a2 q1).bind fun q2 => fX5_caughtForEachAnswer_19 kr FU a0 a2 a4 a6 a7 q2 (0 : Int32) (0 : Int32)
set_option maxHeartbeats 4000000 in
set_option maxRecDepth 100000 in
theorem ctX5_caughtForEachAnswer {l : Launch} {g : xG} {x : xV} (hl : l.stackTraces = false) {F L F2 L2 : Nat} (hF : 10 ≤ F) (hL : 500 ≤ L) (hF2 : F2 + 1 ≤ F) (hL2 : 8 + (18 + 11) + L2 ≤ L) {kr : Int64 → Int64 → Int64 → Int32 → Int32 → Option Bool} (hkr : ∀ (b0 b2 b4 : Int64) (b6 b7 : Int32) (r : Bool), kr b0 b2 b4 b6 b7 = some r → CT yX5_caught MX5_caught { frames := F2, cells := 0, slots := 0, locals := L2 } l g [.long b0, .long b2, .long b4, .int b6, .int b7] x (.inl (some (.int (bi r)))) x) {r : Bool} (a0 : Int64) (a2 : Int64) (a4 : Int64) (a6 : Int32) (a7 : Int32) (hf : fX5_caughtForEachAnswer kr a0 a2 a4 a6 a7 = some r) : CT yX5_caughtForEachAnswer MX5_caughtForEachAnswer { frames := F, cells := 0, slots := 0, locals := L } l g [.long a0, .long a2, .long a4, .int a6, .int a7] x (.inl (some (.int (bi r)))) x := by
  rw [fX5_caughtForEachAnswer] at hf
  refine CT.of (lv0 := [(0, .long a0), (2, .long a2), (4, .long a4), (6, .int a6), (7, .int a7)]) (by decide +kernel) rfl rfl (Nat.le_of_ble_eq_true rfl) rfl hl ?_
  refine aw_lload_n 0 dX5_caughtForEachAnswer_0 rfl ?_
  refine aw_lload_n 1 dX5_caughtForEachAnswer_1 rfl ?_
  refine aw_lload 2 dX5_caughtForEachAnswer_2 rfl ?_
  refine aw_lload_n 0 dX5_caughtForEachAnswer_4 rfl ?_
  obtain ⟨q1, hq1, hf⟩ := xbind hf
  refine aw_callS [.long a4, .long a0] 2 (ctX0_flood hl _ _ hq1) ⟨wl3 (i := 175) rfl rfl, ciX0_flood⟩ (wl2 (i := 112) rfl rfl) dX5_caughtForEachAnswer_5 rfl rfl (Nat.le_of_ble_eq_true rfl) ⟨Nat.le_trans (show _ ≤ 10 from Nat.le_of_ble_eq_true rfl) hF, Nat.le_trans (show _ ≤ 500 from Nat.le_of_ble_eq_true rfl) hL⟩ ⟨Nat.le_of_ble_eq_true rfl, Nat.le_of_ble_eq_true rfl⟩ ?_
  obtain ⟨q2, hq2, hf⟩ := xbind hf
  refine aw_callS [.long a0, .long a2, .long q1] 3 (ctX5_answers hl _ _ _ hq2) ⟨wl3 (i := 186) rfl rfl, ciX5_answers⟩ (wl3 (i := 187) rfl rfl) dX5_caughtForEachAnswer_8 rfl rfl (Nat.le_of_ble_eq_true rfl) ⟨Nat.le_trans (show _ ≤ 10 from Nat.le_of_ble_eq_true rfl) hF, Nat.le_trans (show _ ≤ 500 from Nat.le_of_ble_eq_true rfl) hL⟩ ⟨Nat.le_of_ble_eq_true rfl, Nat.le_of_ble_eq_true rfl⟩ ?_
  refine aw_lstore [(8, .long q2), (0, .long a0), (2, .long a2), (4, .long a4), (6, .int a6), (7, .int a7)] dX5_caughtForEachAnswer_11 (by decide) rfl ?_
  refine aw_iconst (0 : Int32) dX5_caughtForEachAnswer_13 (by decide) ?_
  refine aw_istore [(10, .int (0 : Int32)), (8, .long q2), (0, .long a0), (2, .long a2), (4, .long a4), (6, .int a6), (7, .int a7)] dX5_caughtForEachAnswer_14 (by decide) rfl ?_
  refine aw_iconst (0 : Int32) dX5_caughtForEachAnswer_16 (by decide) ?_
  refine aw_istore [(11, .int (0 : Int32)), (10, .int (0 : Int32)), (8, .long q2), (0, .long a0), (2, .long a2), (4, .long a4), (6, .int a6), (7, .int a7)] dX5_caughtForEachAnswer_17 (by decide) rfl ?_
  refine aw_lv [3, 4, 5, 6, 7, 2, 1, 0] rfl ?_
  exact wkX5_caughtForEachAnswer_19 hl hF hL hF2 hL2 hkr _ _ _ _ _ _ _ _ _ hf
abbrev MX5_catches : xM := (RX5, cX5_catches, 15, (some .boolean), "catches")
theorem ciX5_catches : Cond.code yX5_catches cX5_catches 15 (some .boolean) ∈ wt ∧ Cond.initialized yX5_catches.cls ∈ wt ∧ (yX5_catches.cls ≠ "java/lang/invoke/MethodHandle" ∧ yX5_catches.cls ≠ "java/lang/invoke/VarHandle" ∧ (parseMethodDescriptor yX5_catches.desc).map (fun d => d.parameters.length) = some 6) := ⟨wl3 (i := 182) rfl rfl, wl1 (i := 17) rfl rfl, by decide +kernel, by decide +kernel, by decide +kernel⟩
def fX5_catches_76 (kr : Int64 → Int64 → Int64 → Int32 → Int32 → Option Bool) (a4 : Int64) (a8 : Int32) (a9 : Int32) (a10 : Int64) (a12 : Int64) : Option (Bool) :=
  (fX5_caughtForEachAnswer kr a10 a12 a4 (a8 - (1 : Int32)) a9).bind fun q1 => some q1
set_option maxHeartbeats 4000000 in
set_option maxRecDepth 100000 in
theorem wkX5_catches_76 {l : Launch} {g : xG} {x0 : xV} {x : xV} (hl : l.stackTraces = false) {F L F2 L2 F3 L3 : Nat} (hF : 10 ≤ F) (hL : 500 ≤ L) (hF2 : F2 + 1 ≤ F3) (hL2 : 8 + (18 + 11) + L2 ≤ L3) (hF3 : F3 + 1 ≤ F) (hL3 : 8 + (16 + 11) + L3 ≤ L) (hF30 : 10 ≤ F3) (hL30 : 500 ≤ L3) {kr : Int64 → Int64 → Int64 → Int32 → Int32 → Option Bool} (hkr : ∀ (b0 b2 b4 : Int64) (b6 b7 : Int32) (r : Bool), kr b0 b2 b4 b6 b7 = some r → CT yX5_caught MX5_caught { frames := F2, cells := 0, slots := 0, locals := L2 } l g [.long b0, .long b2, .long b4, .int b6, .int b7] x (.inl (some (.int (bi r)))) x) {r : Bool} (a4 : Int64) (a8 : Int32) (a9 : Int32) (a10 : Int64) (a12 : Int64) (hf : fX5_catches_76 kr a4 a8 a9 a10 a12 = some r) : AW MX5_catches { frames := F, cells := 0, slots := 0, locals := L } l g x0 (.inl (some (.int (bi r)))) x 0 0 x 76 [(4, .long a4), (8, .int a8), (9, .int a9), (10, .long a10), (12, .long a12)] [] := by
  rw [fX5_catches_76] at hf
  refine aw_lload 3 dX5_catches_76 rfl ?_
  refine aw_lload 4 dX5_catches_78 rfl ?_
  refine aw_lload 0 dX5_catches_80 rfl ?_
  refine aw_iload 1 dX5_catches_82 rfl ?_
  refine aw_iconst (1 : Int32) dX5_catches_84 (by decide) ?_
  refine aw_isub dX5_catches_85 ?_
  refine aw_iload 2 dX5_catches_86 rfl ?_
  obtain ⟨q1, hq1, hf⟩ := xbind hf
  refine aw_callS [.long a10, .long a12, .long a4, .int (a8 - (1 : Int32)), .int a9] 5 (ctX5_caughtForEachAnswer hl hF30 hL30 hF2 hL2 hkr _ _ _ _ _ hq1) ⟨wl3 (i := 183) rfl rfl, ciX5_caughtForEachAnswer⟩ (wl3 (i := 184) rfl rfl) dX5_catches_88 rfl rfl (Nat.le_of_ble_eq_true rfl) ⟨hF3, hL3⟩ ⟨Nat.le_of_ble_eq_true rfl, Nat.le_of_ble_eq_true rfl⟩ ?_
  cases hf
  exact aw_zret dX5_catches_91 rfl (nar_b _) rfl rfl ⟨Nat.le_of_ble_eq_true rfl, Nat.le_of_ble_eq_true rfl⟩
def fX5_catches (kr : Int64 → Int64 → Int64 → Int32 → Int32 → Option Bool) (a0 : Int64) (a2 : Int64) (a4 : Int64) (a6 : Int64) (a8 : Int32) (a9 : Int32) : Option (Bool) :=
  (fX0_leftBehind a2 a0 a6).bind fun q1 => (if q1 = (-1 : Int64) then some false else (if (q1 &&& a4) = (0 : Int64) then some false else (fX0_flood a4 q1).bind fun q4 => (fX0_libertiesOf q4 (q1 ||| (a2 ||| a6))).bind fun q5 => (fJ_bitCount q5).bind fun q6 => (if q6 < (1 : Int32) then some false else (if a9 = (2 : Int32) then (if q6 = (1 : Int32) then fX5_catches_76 kr a4 a8 a9 q1 (a2 ||| a6) else some false) else fX5_catches_76 kr a4 a8 a9 q1 (a2 ||| a6)))))
set_option maxHeartbeats 4000000 in
set_option maxRecDepth 100000 in
theorem ctX5_catches {l : Launch} {g : xG} {x : xV} (hl : l.stackTraces = false) {F L F2 L2 F3 L3 : Nat} (hF : 10 ≤ F) (hL : 500 ≤ L) (hF2 : F2 + 1 ≤ F3) (hL2 : 8 + (18 + 11) + L2 ≤ L3) (hF3 : F3 + 1 ≤ F) (hL3 : 8 + (16 + 11) + L3 ≤ L) (hF30 : 10 ≤ F3) (hL30 : 500 ≤ L3) {kr : Int64 → Int64 → Int64 → Int32 → Int32 → Option Bool} (hkr : ∀ (b0 b2 b4 : Int64) (b6 b7 : Int32) (r : Bool), kr b0 b2 b4 b6 b7 = some r → CT yX5_caught MX5_caught { frames := F2, cells := 0, slots := 0, locals := L2 } l g [.long b0, .long b2, .long b4, .int b6, .int b7] x (.inl (some (.int (bi r)))) x) {r : Bool} (a0 : Int64) (a2 : Int64) (a4 : Int64) (a6 : Int64) (a8 : Int32) (a9 : Int32) (hf : fX5_catches kr a0 a2 a4 a6 a8 a9 = some r) : CT yX5_catches MX5_catches { frames := F, cells := 0, slots := 0, locals := L } l g [.long a0, .long a2, .long a4, .long a6, .int a8, .int a9] x (.inl (some (.int (bi r)))) x := by
  rw [fX5_catches] at hf
  refine CT.of (lv0 := [(0, .long a0), (2, .long a2), (4, .long a4), (6, .long a6), (8, .int a8), (9, .int a9)]) (by decide +kernel) rfl rfl (Nat.le_of_ble_eq_true rfl) rfl hl ?_
  refine aw_lload_n 1 dX5_catches_0 rfl ?_
  refine aw_lload_n 0 dX5_catches_1 rfl ?_
  refine aw_lload 3 dX5_catches_2 rfl ?_
  obtain ⟨q1, hq1, hf⟩ := xbind hf
  refine aw_callS [.long a2, .long a0, .long a6] 3 (ctX0_leftBehind hl _ _ _ hq1) ⟨wl3 (i := 178) rfl rfl, ciX0_leftBehind⟩ (wl2 (i := 195) rfl rfl) dX5_catches_4 rfl rfl (Nat.le_of_ble_eq_true rfl) ⟨Nat.le_trans (show _ ≤ 10 from Nat.le_of_ble_eq_true rfl) hF, Nat.le_trans (show _ ≤ 500 from Nat.le_of_ble_eq_true rfl) hL⟩ ⟨Nat.le_of_ble_eq_true rfl, Nat.le_of_ble_eq_true rfl⟩ ?_
  refine aw_lstore [(10, .long q1), (0, .long a0), (2, .long a2), (4, .long a4), (6, .long a6), (8, .int a8), (9, .int a9)] dX5_catches_7 (by decide) rfl ?_
  refine aw_lload 0 dX5_catches_9 rfl ?_
  refine aw_ldc2 (-1 : Int64) rfl (wl3 (i := 179) rfl rfl) dX5_catches_11 ?_
  refine aw_lcmp_eq 28 dX5_catches_14 dX5_catches_15 (by decide) (fun c2 => ?_) (fun c2 => ?_)
  · rw [if_pos c2] at hf
    refine aw_iconst (0 : Int32) dX5_catches_28 (by decide) ?_
    cases hf
    exact aw_zret dX5_catches_29 rfl rfl rfl rfl ⟨Nat.le_of_ble_eq_true rfl, Nat.le_of_ble_eq_true rfl⟩
  · rw [if_neg c2] at hf
    refine aw_lload 0 dX5_catches_18 rfl ?_
    refine aw_lload 3 dX5_catches_20 rfl ?_
    refine aw_land dX5_catches_22 ?_
    refine aw_lconst (0 : Int64) dX5_catches_23 (by decide) ?_
    refine aw_lcmp_ne 30 dX5_catches_24 dX5_catches_25 (by decide) (fun c3 => ?_) (fun c3 => ?_)
    · rw [if_neg c3] at hf
      refine aw_lload_n 2 dX5_catches_30 rfl ?_
      refine aw_lload 4 dX5_catches_31 rfl ?_
      refine aw_lor dX5_catches_33 ?_
      refine aw_lstore [(12, .long (a2 ||| a6)), (10, .long q1), (0, .long a0), (2, .long a2), (4, .long a4), (6, .long a6), (8, .int a8), (9, .int a9)] dX5_catches_34 (by decide) rfl ?_
      refine aw_lload 4 dX5_catches_36 rfl ?_
      refine aw_lload 1 dX5_catches_38 rfl ?_
      obtain ⟨q4, hq4, hf⟩ := xbind hf
      refine aw_callS [.long a4, .long q1] 2 (ctX0_flood hl _ _ hq4) ⟨wl3 (i := 175) rfl rfl, ciX0_flood⟩ (wl2 (i := 112) rfl rfl) dX5_catches_40 rfl rfl (Nat.le_of_ble_eq_true rfl) ⟨Nat.le_trans (show _ ≤ 10 from Nat.le_of_ble_eq_true rfl) hF, Nat.le_trans (show _ ≤ 500 from Nat.le_of_ble_eq_true rfl) hL⟩ ⟨Nat.le_of_ble_eq_true rfl, Nat.le_of_ble_eq_true rfl⟩ ?_
      refine aw_lload 1 dX5_catches_43 rfl ?_
      refine aw_lload 0 dX5_catches_45 rfl ?_
      refine aw_lor dX5_catches_47 ?_
      obtain ⟨q5, hq5, hf⟩ := xbind hf
      refine aw_callS [.long q4, .long (q1 ||| (a2 ||| a6))] 2 (ctX0_libertiesOf hl _ _ hq5) ⟨wl3 (i := 176) rfl rfl, ciX0_libertiesOf⟩ (wl2 (i := 116) rfl rfl) dX5_catches_48 rfl rfl (Nat.le_of_ble_eq_true rfl) ⟨Nat.le_trans (show _ ≤ 10 from Nat.le_of_ble_eq_true rfl) hF, Nat.le_trans (show _ ≤ 500 from Nat.le_of_ble_eq_true rfl) hL⟩ ⟨Nat.le_of_ble_eq_true rfl, Nat.le_of_ble_eq_true rfl⟩ ?_
      obtain ⟨q6, hq6, hf⟩ := xbind hf
      refine aw_callS [.long q5] 1 (ctJ_bitCount hl _ hq6) ⟨wl3 (i := 177) rfl rfl, ciJ_bitCount⟩ (wl2 (i := 120) rfl rfl) dX5_catches_51 rfl rfl (Nat.le_of_ble_eq_true rfl) ⟨Nat.le_trans (show _ ≤ 10 from Nat.le_of_ble_eq_true rfl) hF, Nat.le_trans (show _ ≤ 500 from Nat.le_of_ble_eq_true rfl) hL⟩ ⟨Nat.le_of_ble_eq_true rfl, Nat.le_of_ble_eq_true rfl⟩ ?_
      refine aw_istore [(14, .int q6), (12, .long (a2 ||| a6)), (10, .long q1), (0, .long a0), (2, .long a2), (4, .long a4), (6, .long a6), (8, .int a8), (9, .int a9)] dX5_catches_54 (by decide) rfl ?_
      refine aw_iload 0 dX5_catches_56 rfl ?_
      refine aw_iconst (1 : Int32) dX5_catches_58 (by decide) ?_
      refine aw_icmp_lt 74 dX5_catches_59 (by decide) (fun c7 => ?_) (fun c7 => ?_)
      · rw [if_pos c7] at hf
        refine aw_iconst (0 : Int32) dX5_catches_74 (by decide) ?_
        cases hf
        exact aw_zret dX5_catches_75 rfl rfl rfl rfl ⟨Nat.le_of_ble_eq_true rfl, Nat.le_of_ble_eq_true rfl⟩
      · rw [if_neg c7] at hf
        refine aw_iload 8 dX5_catches_62 rfl ?_
        refine aw_iconst (2 : Int32) dX5_catches_64 (by decide) ?_
        refine aw_icmp_ne 76 dX5_catches_65 (by decide) (fun c8 => ?_) (fun c8 => ?_)
        · rw [if_neg c8] at hf
          refine aw_lv [5, 7, 8, 2, 1] rfl ?_
          exact wkX5_catches_76 hl hF hL hF2 hL2 hF3 hL3 hF30 hL30 hkr _ _ _ _ _ hf
        · rw [if_pos c8] at hf
          refine aw_iload 0 dX5_catches_68 rfl ?_
          refine aw_iconst (1 : Int32) dX5_catches_70 (by decide) ?_
          refine aw_icmp_eq 76 dX5_catches_71 (by decide) (fun c9 => ?_) (fun c9 => ?_)
          · rw [if_pos c9] at hf
            refine aw_lv [5, 7, 8, 2, 1] rfl ?_
            exact wkX5_catches_76 hl hF hL hF2 hL2 hF3 hL3 hF30 hL30 hkr _ _ _ _ _ hf
          · rw [if_neg c9] at hf
            refine aw_iconst (0 : Int32) dX5_catches_74 (by decide) ?_
            cases hf
            exact aw_zret dX5_catches_75 rfl rfl rfl rfl ⟨Nat.le_of_ble_eq_true rfl, Nat.le_of_ble_eq_true rfl⟩
    · rw [if_pos c3] at hf
      refine aw_iconst (0 : Int32) dX5_catches_28 (by decide) ?_
      cases hf
      exact aw_zret dX5_catches_29 rfl rfl rfl rfl ⟨Nat.le_of_ble_eq_true rfl, Nat.le_of_ble_eq_true rfl⟩
