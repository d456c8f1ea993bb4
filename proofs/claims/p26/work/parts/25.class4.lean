abbrev MX6_twinOfParent : xM := (RX6, cX6_twinOfParent, 3, (some (.object "AtariGarden$Twig")), "twinOfParent")
abbrev rmX6_twinOfParent : Room := { frames := 0, cells := 0, slots := 0, locals := 0 }
theorem ciX6_twinOfParent : Cond.code yX6_twinOfParent cX6_twinOfParent 3 (some (.object "AtariGarden$Twig")) ∈ wt ∧ Cond.initialized yX6_twinOfParent.cls ∈ wt ∧ (yX6_twinOfParent.cls ≠ "java/lang/invoke/MethodHandle" ∧ yX6_twinOfParent.cls ≠ "java/lang/invoke/VarHandle" ∧ (parseMethodDescriptor yX6_twinOfParent.desc).map (fun d => d.parameters.length) = some 1) := ⟨wl3 (i := 154) rfl rfl, wl1 (i := 3) rfl rfl, by decide +kernel, by decide +kernel, by decide +kernel⟩
def fX6_twinOfParent_18 (h : TH) (t : Nat) (s0 : Int32) : Option (Option Nat) :=
  (if s0 < 0 then some none else (if t_kd h t = 5 then (t_R h t 1).bind fun p3 => (if t_kd h p3 = 13 then (if s0 < (nI (t_ln h p3)) then (if xin s0 (t_ln h p3) = true then some (t_R h p3 s0.toNatClampNeg) else none) else some none) else none) else none))
set_option maxHeartbeats 4000000 in
set_option maxRecDepth 100000 in
theorem wkX6_twinOfParent_18 {l : Launch} {g : xG} {x0 : xV} (hl : l.stackTraces = false) {r : Option Nat} (h : TH) (t : Nat) (s0 : Int32) (hf : fX6_twinOfParent_18 h t s0 = some r) : AW MX6_twinOfParent rmX6_twinOfParent l g x0 (.inl (some (va_rf r))) (thE g h) 0 0 (thE g h) 18 [(0, va_rf (some t))] [.int s0] := by
  rw [fX6_twinOfParent_18] at hf
  refine aw_istore_n [(2, .int s0), (0, va_rf (some t))] dX6_twinOfParent_18 rfl (by decide) rfl ?_
  refine aw_iload_n 0 dX6_twinOfParent_19 rfl ?_
  refine aw_if_lt 32 dX6_twinOfParent_20 (by decide) (fun c1 => ?_) (fun c1 => ?_)
  · rw [if_pos c1] at hf
    refine aw_null dX6_twinOfParent_32 ?_
    refine aw_goto 42 dX6_twinOfParent_33 (by decide) ?_
    cases hf
    exact aw_aret "AtariGarden$Twig" dX6_twinOfParent_42 rfl rfl rfl ⟨Nat.le_of_ble_eq_true rfl, Nat.le_of_ble_eq_true rfl⟩
  · rw [if_neg c1] at hf
    refine aw_iload_n 0 dX6_twinOfParent_23 rfl ?_
    refine aw_qload_n 1 dX6_twinOfParent_24 rfl ?_
    obtain ⟨hk_2, hf⟩ := xifn hf
    refine th_getR 4 1 inX6 rfl hk_2 rfl ⟨by decide, by decide, rfl⟩ (wl1 (i := 64) rfl rfl) dX6_twinOfParent_25 ?_
    obtain ⟨p3, hp3, hf⟩ := xbind hf
    obtain ⟨hk_4, hf⟩ := xifn hf
    refine th_alenT hp3 hk_4 dX6_twinOfParent_28 ?_
    refine aw_icmp_lt 36 dX6_twinOfParent_29 (by decide) (fun c5 => ?_) (fun c5 => ?_)
    · rw [if_pos c5] at hf
      refine aw_qload_n 1 dX6_twinOfParent_36 rfl ?_
      refine th_getR 4 1 inX6 rfl hk_2 rfl ⟨by decide, by decide, rfl⟩ (wl1 (i := 64) rfl rfl) dX6_twinOfParent_37 ?_
      refine aw_iload_n 0 dX6_twinOfParent_40 rfl ?_
      obtain ⟨hi6, hf⟩ := xifn hf
      refine th_aaldT hp3 hk_4 (xin_v hi6) dX6_twinOfParent_41 ?_
      cases hf
      exact aw_aret "AtariGarden$Twig" dX6_twinOfParent_42 rfl rfl rfl ⟨Nat.le_of_ble_eq_true rfl, Nat.le_of_ble_eq_true rfl⟩
    · rw [if_neg c5] at hf
      refine aw_null dX6_twinOfParent_32 ?_
      refine aw_goto 42 dX6_twinOfParent_33 (by decide) ?_
      cases hf
      exact aw_aret "AtariGarden$Twig" dX6_twinOfParent_42 rfl rfl rfl ⟨Nat.le_of_ble_eq_true rfl, Nat.le_of_ble_eq_true rfl⟩
def fX6_twinOfParent (h : TH) (t : Nat) (a1 : Option Nat) : Option (Option Nat) :=
  a1.bind fun p1 => (if t_kd h p1 = 6 then (if (t_R h p1 3) = none then fX6_twinOfParent_18 h t (-1 : Int32) else (t_R h p1 3).bind fun p4 => (if t_kd h p4 = 6 then fX6_twinOfParent_18 h t (t_I h p4 0) else none)) else none)
set_option maxHeartbeats 4000000 in
set_option maxRecDepth 100000 in
theorem ctX6_twinOfParent {l : Launch} {g : xG} (hl : l.stackTraces = false) {r : Option Nat} (h : TH) (t : Nat) (a1 : Option Nat) (hf : fX6_twinOfParent h t a1 = some r) : CT yX6_twinOfParent MX6_twinOfParent rmX6_twinOfParent l g [va_rf (some t), va_rf a1] (thE g h) (.inl (some (va_rf r))) (thE g h) := by
  rw [fX6_twinOfParent] at hf
  refine CT.of (lv0 := [(0, va_rf (some t)), (1, va_rf a1)]) (by decide +kernel) rfl rfl (by simp [lg_sl, cat_q, cat_i, cat_l, cat_r]) (by simp [lv_args, cat_q, cat_i, cat_l, cat_r]) hl ?_
  refine aw_qload_n 1 dX6_twinOfParent_0 rfl ?_
  obtain ⟨p1, hp1, hf⟩ := xbind hf
  obtain ⟨hk_2, hf⟩ := xifn hf
  refine th_getRN "AtariGarden" 5 3 inX7 hp1 hk_2 rfl ⟨by decide, by decide, rfl⟩ (wm3 (i := 67) rfl) dX6_twinOfParent_1 ?_
  refine aw_ifnonnull 11 dX6_twinOfParent_4 (by decide) (fun c3 => ?_) (fun c3 => ?_)
  · rw [if_neg c3] at hf
    refine aw_qload_n 1 dX6_twinOfParent_11 rfl ?_
    refine th_getRN "AtariGarden" 5 3 inX7 hp1 hk_2 rfl ⟨by decide, by decide, rfl⟩ (wm3 (i := 67) rfl) dX6_twinOfParent_12 ?_
    obtain ⟨p4, hp4, hf⟩ := xbind hf
    obtain ⟨hk_5, hf⟩ := xifn hf
    refine th_getIN "AtariGarden" 5 0 inX7 hp4 hk_5 rfl ⟨by decide, by decide, rfl⟩ (wm3 (i := 61) rfl) dX6_twinOfParent_15 ?_
    refine aw_lv [0] rfl ?_
    exact wkX6_twinOfParent_18 hl _ _ _ hf
  · rw [if_pos c3] at hf
    refine aw_iconst (-1 : Int32) dX6_twinOfParent_7 (by decide) ?_
    refine aw_goto 18 dX6_twinOfParent_8 (by decide) ?_
    refine aw_lv [0] rfl ?_
    exact wkX6_twinOfParent_18 hl _ _ _ hf
abbrev MX6_twinOf : xM := (RX6, cX6_twinOf, 4, (some (.object "AtariGarden$Twig")), "twinOf")
abbrev rmX6_twinOf : Room := { frames := 1, cells := 0, slots := 0, locals := 24 }
theorem ciX6_twinOf : Cond.code yX6_twinOf cX6_twinOf 4 (some (.object "AtariGarden$Twig")) ∈ wt ∧ Cond.initialized yX6_twinOf.cls ∈ wt ∧ (yX6_twinOf.cls ≠ "java/lang/invoke/MethodHandle" ∧ yX6_twinOf.cls ≠ "java/lang/invoke/VarHandle" ∧ (parseMethodDescriptor yX6_twinOf.desc).map (fun d => d.parameters.length) = some 2) := ⟨wl3 (i := 150) rfl rfl, wl1 (i := 3) rfl rfl, by decide +kernel, by decide +kernel, by decide +kernel⟩
def fX6_twinOf (h : TH) (t : Nat) (a1 : Option Nat) (a2 : Option Nat) : Option (Option Nat) :=
  a1.bind fun p1 => (if t_kd h p1 = 6 then (if (t_R h p1 3) = none then some a2 else (if t_kd h t = 5 then (fX6_twinOfParent h t a1).bind fun q5 => (if q5 = none then some none else (fX6_childOf h t q5 (t_I h p1 4)).bind fun q7 => some q7) else none)) else none)
set_option maxHeartbeats 4000000 in
set_option maxRecDepth 100000 in
theorem ctX6_twinOf {l : Launch} {g : xG} (hl : l.stackTraces = false) {r : Option Nat} (h : TH) (t : Nat) (a1 : Option Nat) (a2 : Option Nat) (hf : fX6_twinOf h t a1 a2 = some r) : CT yX6_twinOf MX6_twinOf rmX6_twinOf l g [va_rf (some t), va_rf a1, va_rf a2] (thE g h) (.inl (some (va_rf r))) (thE g h) := by
  rw [fX6_twinOf] at hf
  refine CT.of (lv0 := [(0, va_rf (some t)), (1, va_rf a1), (2, va_rf a2)]) (by decide +kernel) rfl rfl (by simp [lg_sl, cat_q, cat_i, cat_l, cat_r]) (by simp [lv_args, cat_q, cat_i, cat_l, cat_r]) hl ?_
  refine aw_qload_n 1 dX6_twinOf_0 rfl ?_
  obtain ⟨p1, hp1, hf⟩ := xbind hf
  obtain ⟨hk_2, hf⟩ := xifn hf
  refine th_getRN "AtariGarden" 5 3 inX7 hp1 hk_2 rfl ⟨by decide, by decide, rfl⟩ (wm3 (i := 67) rfl) dX6_twinOf_1 ?_
  refine aw_ifnonnull 9 dX6_twinOf_4 (by decide) (fun c3 => ?_) (fun c3 => ?_)
  · rw [if_neg c3] at hf
    refine aw_qload_n 0 dX6_twinOf_9 rfl ?_
    refine aw_qload_n 1 dX6_twinOf_10 rfl ?_
    obtain ⟨hk_4, hf⟩ := xifn hf
    obtain ⟨q5, hq5, hf⟩ := xbind hf
    refine aw_callV 4 (some t) [va_rf a1] 1 rfl (thC_ob (h := h) hk_4 (by decide)) rfl rfl (ctX6_twinOfParent hl _ _ _ hq5) ⟨wl3 (i := 151) rfl rfl, ciX6_twinOfParent⟩ (wl3 (i := 153) rfl rfl) (wl0 (i := 16) rfl rfl) dX6_twinOf_11 rfl rfl (Nat.le_of_ble_eq_true rfl) ⟨Nat.le_of_ble_eq_true rfl, Nat.le_of_ble_eq_true rfl⟩ ⟨Nat.le_of_ble_eq_true rfl, Nat.le_of_ble_eq_true rfl⟩ ?_
    refine aw_qstore_n (i := 3) [(3, va_rf q5), (0, va_rf (some t)), (1, va_rf a1), (2, va_rf a2)] dX6_twinOf_14 rfl (by decide) (by simp [cat_q, cat_i, cat_l, cat_r]) ?_
    refine aw_qload_n 0 dX6_twinOf_15 rfl ?_
    refine aw_ifnonnull 23 dX6_twinOf_16 (by decide) (fun c6 => ?_) (fun c6 => ?_)
    · rw [if_neg c6] at hf
      refine aw_qload_n 1 dX6_twinOf_23 rfl ?_
      refine aw_qload_n 0 dX6_twinOf_24 rfl ?_
      refine aw_qload_n 2 dX6_twinOf_25 rfl ?_
      refine th_getIN "AtariGarden" 5 4 inX7 hp1 hk_2 rfl ⟨by decide, by decide, rfl⟩ (wm3 (i := 69) rfl) dX6_twinOf_26 ?_
      obtain ⟨q7, hq7, hf⟩ := xbind hf
      refine aw_callV 4 (some t) [va_rf q5, .int (t_I h p1 4)] 2 rfl (thC_ob (h := h) hk_4 (by decide)) rfl rfl (ctX6_childOf hl _ _ _ _ hq7) ⟨wl3 (i := 110) rfl rfl, ciX6_childOf⟩ (wl3 (i := 112) rfl rfl) (wl0 (i := 12) rfl rfl) dX6_twinOf_29 rfl rfl (Nat.le_of_ble_eq_true rfl) ⟨Nat.le_of_ble_eq_true rfl, Nat.le_of_ble_eq_true rfl⟩ ⟨Nat.le_of_ble_eq_true rfl, Nat.le_of_ble_eq_true rfl⟩ ?_
      cases hf
      exact aw_aret "AtariGarden$Twig" dX6_twinOf_32 rfl rfl rfl ⟨Nat.le_of_ble_eq_true rfl, Nat.le_of_ble_eq_true rfl⟩
    · rw [if_pos c6] at hf
      refine aw_null dX6_twinOf_19 ?_
      refine aw_goto 32 dX6_twinOf_20 (by decide) ?_
      cases hf
      exact aw_aret "AtariGarden$Twig" dX6_twinOf_32 rfl rfl rfl ⟨Nat.le_of_ble_eq_true rfl, Nat.le_of_ble_eq_true rfl⟩
  · rw [if_pos c3] at hf
    refine aw_qload_n 2 dX6_twinOf_7 rfl ?_
    cases hf
    exact aw_aret "AtariGarden$Twig" dX6_twinOf_8 rfl rfl rfl ⟨Nat.le_of_ble_eq_true rfl, Nat.le_of_ble_eq_true rfl⟩
abbrev MX6_countMissing : xM := (RX6, cX6_countMissing, 6, (some .int), "countMissing")
abbrev rmX6_countMissing : Room := { frames := 2, cells := 0, slots := 0, locals := 47 }
theorem ciX6_countMissing : Cond.code yX6_countMissing cX6_countMissing 6 (some .int) ∈ wt ∧ Cond.initialized yX6_countMissing.cls ∈ wt ∧ (yX6_countMissing.cls ≠ "java/lang/invoke/MethodHandle" ∧ yX6_countMissing.cls ≠ "java/lang/invoke/VarHandle" ∧ (parseMethodDescriptor yX6_countMissing.desc).map (fun d => d.parameters.length) = some 2) := ⟨wl3 (i := 146) rfl rfl, wl1 (i := 3) rfl rfl, by decide +kernel, by decide +kernel, by decide +kernel⟩
def fX6_countMissing_83 (k5 : TH → Nat → Option Nat → Option Nat → Int32 → Int32 → Option (Int32 × TH)) (h : TH) (t : Nat) (a1 : Option Nat) (a2 : Option Nat) (a3 : Int32) (a4 : Int32) : Option (Int32 × TH) :=
  k5 h t a1 a2 a3 (a4 + (1 : Int32))
set_option maxHeartbeats 4000000 in
set_option maxRecDepth 100000 in
theorem wkX6_countMissing_83 {l : Launch} {g : xG} {x0 : xV} (hl : l.stackTraces = false) {r : Int32 × TH} (k5 : TH → Nat → Option Nat → Option Nat → Int32 → Int32 → Option (Int32 × TH)) (hk5 : ∀ (h : TH) (t : Nat) (a1 : Option Nat) (a2 : Option Nat) (a3 : Int32) (a4 : Int32), k5 h t a1 a2 a3 a4 = some r → AW MX6_countMissing rmX6_countMissing l g x0 (.inl (some (.int r.1))) (thE g r.2) 0 0 (thE g h) 5 [(0, va_rf (some t)), (1, va_rf a1), (2, va_rf a2), (3, .int a3), (4, .int a4)] []) (h : TH) (t : Nat) (a1 : Option Nat) (a2 : Option Nat) (a3 : Int32) (a4 : Int32) (hf : fX6_countMissing_83 k5 h t a1 a2 a3 a4 = some r) : AW MX6_countMissing rmX6_countMissing l g x0 (.inl (some (.int r.1))) (thE g r.2) 0 0 (thE g h) 83 [(0, va_rf (some t)), (1, va_rf a1), (2, va_rf a2), (3, .int a3), (4, .int a4)] [] := by
  rw [fX6_countMissing_83] at hf
  refine aw_iinc [(4, .int (a4 + (1 : Int32))), (0, va_rf (some t)), (1, va_rf a1), (2, va_rf a2), (3, .int a3)] 4 dX6_countMissing_83 rfl rfl (by decide) rfl ?_
  refine aw_goto 5 dX6_countMissing_86 (by decide) ?_
  refine aw_lv [1, 2, 3, 4, 0] rfl ?_
  exact hk5 _ _ _ _ _ _ hf
def fX6_countMissing_81 (k5 : TH → Nat → Option Nat → Option Nat → Int32 → Int32 → Option (Int32 × TH)) (h : TH) (t : Nat) (a1 : Option Nat) (a2 : Option Nat) (a4 : Int32) (s0 : Int32) (s1 : Int32) : Option (Int32 × TH) :=
  fX6_countMissing_83 k5 h t a1 a2 (s0 + s1) a4
set_option maxHeartbeats 4000000 in
set_option maxRecDepth 100000 in
theorem wkX6_countMissing_81 {l : Launch} {g : xG} {x0 : xV} (hl : l.stackTraces = false) {r : Int32 × TH} (k5 : TH → Nat → Option Nat → Option Nat → Int32 → Int32 → Option (Int32 × TH)) (hk5 : ∀ (h : TH) (t : Nat) (a1 : Option Nat) (a2 : Option Nat) (a3 : Int32) (a4 : Int32), k5 h t a1 a2 a3 a4 = some r → AW MX6_countMissing rmX6_countMissing l g x0 (.inl (some (.int r.1))) (thE g r.2) 0 0 (thE g h) 5 [(0, va_rf (some t)), (1, va_rf a1), (2, va_rf a2), (3, .int a3), (4, .int a4)] []) (h : TH) (t : Nat) (a1 : Option Nat) (a2 : Option Nat) (a4 : Int32) (s0 : Int32) (s1 : Int32) (hf : fX6_countMissing_81 k5 h t a1 a2 a4 s0 s1 = some r) : AW MX6_countMissing rmX6_countMissing l g x0 (.inl (some (.int r.1))) (thE g r.2) 0 0 (thE g h) 81 [(0, va_rf (some t)), (1, va_rf a1), (2, va_rf a2), (4, .int a4)] [.int s1, .int s0] := by
  rw [fX6_countMissing_81] at hf
  refine aw_iadd dX6_countMissing_81 ?_
  refine aw_istore_n (i := 3) [(3, .int (s0 + s1)), (0, va_rf (some t)), (1, va_rf a1), (2, va_rf a2), (4, .int a4)] dX6_countMissing_82 rfl (by decide) (by simp [cat_q, cat_i, cat_l, cat_r]) ?_
  refine aw_lv [1, 2, 3, 0, 4] rfl ?_
  exact wkX6_countMissing_83 hl _ hk5 _ _ _ _ _ _ hf
def fX6_countMissing_5 : Nat → TH → Nat → Option Nat → Option Nat → Int32 → Int32 → Option (Int32 × TH)
  | 0, _, _, _, _, _, _ => none
  | n + 1, h, t, a1, a2, a3, a4 =>
    (if t_kd h t = 5 then (t_R h t 0).bind fun p2 => (if t_kd h p2 = 13 then (if (nI (t_ln h p2)) ≤ a4 then some (a3, h) else (t_R h t 1).bind fun p5 => (if t_kd h p5 = 13 then (if (nI (t_ln h p5)) ≤ a4 then some (a3, h) else (if xin a4 (t_ln h p2) = true then (if (t_R h p2 a4.toNatClampNeg) = none then fX6_countMissing_83 (fX6_countMissing_5 n) h t a1 a2 a3 a4 else (t_R h p2 a4.toNatClampNeg).bind fun p10 => (if t_kd h p10 = 6 then a1.bind fun p12 => (if t_kd h p12 = 6 then (if (t_I h p10 1) = (t_I h p12 0) then (fX6_twinOf h t (t_R h p2 a4.toNatClampNeg) a2).bind fun q15 => (if xin a4 (t_ln h p5) = true then (if (q15).all (fun b => t_kd h b == 6) = true then (t_R (s_R h p5 a4.toNatClampNeg q15) t 1).bind fun p18 => (if t_kd (s_R h p5 a4.toNatClampNeg q15) p18 = 13 then (if xin a4 (t_ln (s_R h p5 a4.toNatClampNeg q15) p18) = true then (if (t_R (s_R h p5 a4.toNatClampNeg q15) p18 a4.toNatClampNeg) = none then fX6_countMissing_81 (fX6_countMissing_5 n) (s_R h p5 a4.toNatClampNeg q15) t a1 a2 a4 a3 (1 : Int32) else fX6_countMissing_81 (fX6_countMissing_5 n) (s_R h p5 a4.toNatClampNeg q15) t a1 a2 a4 a3 (0 : Int32)) else none) else none) else none) else none) else fX6_countMissing_83 (fX6_countMissing_5 n) h t a1 a2 a3 a4) else none) else none)) else none)) else none)) else none) else none)
set_option maxHeartbeats 4000000 in
set_option maxRecDepth 100000 in
theorem wkX6_countMissing_5 {l : Launch} {g : xG} {x0 : xV} (hl : l.stackTraces = false) {r : Int32 × TH} : ∀ (n : Nat) (h : TH) (t : Nat) (a1 : Option Nat) (a2 : Option Nat) (a3 : Int32) (a4 : Int32), fX6_countMissing_5 n h t a1 a2 a3 a4 = some r → AW MX6_countMissing rmX6_countMissing l g x0 (.inl (some (.int r.1))) (thE g r.2) 0 0 (thE g h) 5 [(0, va_rf (some t)), (1, va_rf a1), (2, va_rf a2), (3, .int a3), (4, .int a4)] [] := by
  intro n
  induction n with
  | zero => intro h t a1 a2 a3 a4 hf; exact absurd hf (by simp [fX6_countMissing_5])
  | succ n hk5 =>
    intro h t a1 a2 a3 a4 hf
    rw [fX6_countMissing_5] at hf
    refine aw_iload 4 dX6_countMissing_5 rfl ?_
    refine aw_qload_n 0 dX6_countMissing_7 rfl ?_
    obtain ⟨hk_1, hf⟩ := xifn hf
    refine th_getR 4 0 inX6 rfl hk_1 rfl ⟨by decide, by decide, rfl⟩ (wl1 (i := 63) rfl rfl) dX6_countMissing_8 ?_
    obtain ⟨p2, hp2, hf⟩ := xbind hf
    obtain ⟨hk_3, hf⟩ := xifn hf
    refine th_alenT hp2 hk_3 dX6_countMissing_11 ?_
    refine aw_icmp_ge 89 dX6_countMissing_12 (by decide) (fun c4 => ?_) (fun c4 => ?_)
    · rw [if_pos c4] at hf
      refine aw_iload_n 3 dX6_countMissing_89 rfl ?_
      cases hf
      exact aw_iret dX6_countMissing_90 rfl rfl rfl ⟨Nat.le_of_ble_eq_true rfl, Nat.le_of_ble_eq_true rfl⟩
    · rw [if_neg c4] at hf
      refine aw_iload 4 dX6_countMissing_15 rfl ?_
      refine aw_qload_n 0 dX6_countMissing_17 rfl ?_
      refine th_getR 4 1 inX6 rfl hk_1 rfl ⟨by decide, by decide, rfl⟩ (wl1 (i := 64) rfl rfl) dX6_countMissing_18 ?_
      obtain ⟨p5, hp5, hf⟩ := xbind hf
      obtain ⟨hk_6, hf⟩ := xifn hf
      refine th_alenT hp5 hk_6 dX6_countMissing_21 ?_
      refine aw_icmp_ge 89 dX6_countMissing_22 (by decide) (fun c7 => ?_) (fun c7 => ?_)
      · rw [if_pos c7] at hf
        refine aw_iload_n 3 dX6_countMissing_89 rfl ?_
        cases hf
        exact aw_iret dX6_countMissing_90 rfl rfl rfl ⟨Nat.le_of_ble_eq_true rfl, Nat.le_of_ble_eq_true rfl⟩
      · rw [if_neg c7] at hf
        refine aw_qload_n 0 dX6_countMissing_25 rfl ?_
        refine th_getR 4 0 inX6 rfl hk_1 rfl ⟨by decide, by decide, rfl⟩ (wl1 (i := 63) rfl rfl) dX6_countMissing_26 ?_
        refine aw_iload 4 dX6_countMissing_29 rfl ?_
        obtain ⟨hi8, hf⟩ := xifn hf
        refine th_aaldT hp2 hk_3 (xin_v hi8) dX6_countMissing_31 ?_
        refine aw_qstore [(5, va_rf (t_R h p2 a4.toNatClampNeg)), (0, va_rf (some t)), (1, va_rf a1), (2, va_rf a2), (3, .int a3), (4, .int a4)] dX6_countMissing_32 (by decide) rfl ?_
        refine aw_qload 0 dX6_countMissing_34 rfl ?_
        refine aw_ifnull 83 dX6_countMissing_36 (by decide) (fun c9 => ?_) (fun c9 => ?_)
        · rw [if_pos c9] at hf
          refine aw_lv [1, 2, 3, 4, 5] rfl ?_
          exact wkX6_countMissing_83 hl _ hk5 _ _ _ _ _ _ hf
        · rw [if_neg c9] at hf
          refine aw_qload 0 dX6_countMissing_39 rfl ?_
          obtain ⟨p10, hp10, hf⟩ := xbind hf
          obtain ⟨hk_11, hf⟩ := xifn hf
          refine th_getIN "AtariGarden" 5 1 inX7 hp10 hk_11 rfl ⟨by decide, by decide, rfl⟩ (wm3 (i := 63) rfl) dX6_countMissing_41 ?_
          refine aw_qload_n 2 dX6_countMissing_44 rfl ?_
          obtain ⟨p12, hp12, hf⟩ := xbind hf
          obtain ⟨hk_13, hf⟩ := xifn hf
          refine th_getIN "AtariGarden" 5 0 inX7 hp12 hk_13 rfl ⟨by decide, by decide, rfl⟩ (wm3 (i := 61) rfl) dX6_countMissing_45 ?_
          refine aw_icmp_ne 83 dX6_countMissing_48 (by decide) (fun c14 => ?_) (fun c14 => ?_)
          · rw [if_neg c14] at hf
            refine aw_lv [1, 2, 3, 4, 5] rfl ?_
            exact wkX6_countMissing_83 hl _ hk5 _ _ _ _ _ _ hf
          · rw [if_pos c14] at hf
            refine aw_qload_n 1 dX6_countMissing_51 rfl ?_
            refine th_getR 4 1 inX6 rfl hk_1 rfl ⟨by decide, by decide, rfl⟩ (wl1 (i := 64) rfl rfl) dX6_countMissing_52 ?_
            refine aw_iload 5 dX6_countMissing_55 rfl ?_
            refine aw_qload_n 1 dX6_countMissing_57 rfl ?_
            refine aw_qload 0 dX6_countMissing_58 rfl ?_
            refine aw_qload_n 3 dX6_countMissing_60 rfl ?_
            obtain ⟨q15, hq15, hf⟩ := xbind hf
            refine aw_callV 4 (some t) [va_rf (t_R h p2 a4.toNatClampNeg), va_rf a2] 2 rfl (thC_ob (h := h) hk_1 (by decide)) rfl rfl (ctX6_twinOf hl _ _ _ _ hq15) ⟨wl3 (i := 147) rfl rfl, ciX6_twinOf⟩ (wl3 (i := 149) rfl rfl) (wl0 (i := 15) rfl rfl) dX6_countMissing_61 rfl rfl (by simp [cat_q, cat_i, cat_l, cat_r]) ⟨Nat.le_of_ble_eq_true rfl, Nat.le_of_ble_eq_true rfl⟩ ⟨Nat.le_of_ble_eq_true rfl, Nat.le_of_ble_eq_true rfl⟩ ?_
            obtain ⟨hi16, hf⟩ := xifn hf
            obtain ⟨hv17, hf⟩ := xifn hf
            refine th_aastT hp5 hk_6 (xin_v hi16) (xall hv17) dX6_countMissing_64 ?_
            refine aw_iload_n 4 dX6_countMissing_65 rfl ?_
            refine aw_qload_n 1 dX6_countMissing_66 rfl ?_
            refine th_getR 4 1 inX6 rfl hk_1 rfl ⟨by decide, by decide, rfl⟩ (wl1 (i := 64) rfl rfl) dX6_countMissing_67 ?_
            refine aw_iload 5 dX6_countMissing_70 rfl ?_
            obtain ⟨p18, hp18, hf⟩ := xbind hf
            obtain ⟨hk_19, hf⟩ := xifn hf
            obtain ⟨hi20, hf⟩ := xifn hf
            refine th_aaldT hp18 hk_19 (xin_v hi20) dX6_countMissing_72 ?_
            refine aw_ifnonnull 80 dX6_countMissing_73 (by decide) (fun c21 => ?_) (fun c21 => ?_)
            · rw [if_neg c21] at hf
              refine aw_iconst (0 : Int32) dX6_countMissing_80 (by decide) ?_
              refine aw_lv [1, 2, 3, 5] rfl ?_
              exact wkX6_countMissing_81 hl _ hk5 _ _ _ _ _ _ _ hf
            · rw [if_pos c21] at hf
              refine aw_iconst (1 : Int32) dX6_countMissing_76 (by decide) ?_
              refine aw_goto 81 dX6_countMissing_77 (by decide) ?_
              refine aw_lv [1, 2, 3, 5] rfl ?_
              exact wkX6_countMissing_81 hl _ hk5 _ _ _ _ _ _ _ hf
def fX6_countMissing (h : TH) (t : Nat) (a1 : Option Nat) (a2 : Option Nat) : Option (Int32 × TH) :=
  fX6_countMissing_5 FU h t a1 a2 (0 : Int32) (0 : Int32)
set_option maxHeartbeats 4000000 in
set_option maxRecDepth 100000 in
theorem ctX6_countMissing {l : Launch} {g : xG} (hl : l.stackTraces = false) {r : Int32 × TH} (h : TH) (t : Nat) (a1 : Option Nat) (a2 : Option Nat) (hf : fX6_countMissing h t a1 a2 = some r) : CT yX6_countMissing MX6_countMissing rmX6_countMissing l g [va_rf (some t), va_rf a1, va_rf a2] (thE g h) (.inl (some (.int r.1))) (thE g r.2) := by
  rw [fX6_countMissing] at hf
  refine CT.of (lv0 := [(0, va_rf (some t)), (1, va_rf a1), (2, va_rf a2)]) (by decide +kernel) rfl rfl (by simp [lg_sl, cat_q, cat_i, cat_l, cat_r]) (by simp [lv_args, cat_q, cat_i, cat_l, cat_r]) hl ?_
  refine aw_iconst (0 : Int32) dX6_countMissing_0 (by decide) ?_
  refine aw_istore_n (i := 3) [(3, .int (0 : Int32)), (0, va_rf (some t)), (1, va_rf a1), (2, va_rf a2)] dX6_countMissing_1 rfl (by decide) (by simp [cat_q, cat_i, cat_l, cat_r]) ?_
  refine aw_iconst (0 : Int32) dX6_countMissing_2 (by decide) ?_
  refine aw_istore [(4, .int (0 : Int32)), (3, .int (0 : Int32)), (0, va_rf (some t)), (1, va_rf a1), (2, va_rf a2)] dX6_countMissing_3 (by decide) rfl ?_
  refine aw_lv [2, 3, 4, 1, 0] rfl ?_
  exact wkX6_countMissing_5 hl _ _ _ _ _ _ _ hf
abbrev MX6_twinOrNew : xM := (RX6, cX6_twinOrNew, 5, (some (.object "AtariGarden$Twig")), "twinOrNew")
abbrev rmX6_twinOrNew : Room := { frames := 3, cells := 2, slots := 12, locals := 70 }
theorem ciX6_twinOrNew : Cond.code yX6_twinOrNew cX6_twinOrNew 5 (some (.object "AtariGarden$Twig")) ∈ wt ∧ Cond.initialized yX6_twinOrNew.cls ∈ wt ∧ (yX6_twinOrNew.cls ≠ "java/lang/invoke/MethodHandle" ∧ yX6_twinOrNew.cls ≠ "java/lang/invoke/VarHandle" ∧ (parseMethodDescriptor yX6_twinOrNew.desc).map (fun d => d.parameters.length) = some 2) := ⟨wl3 (i := 158) rfl rfl, wl1 (i := 3) rfl rfl, by decide +kernel, by decide +kernel, by decide +kernel⟩
def fX6_twinOrNew (h : TH) (t : Nat) (a1 : Option Nat) (a2 : Option Nat) : Option (Option Nat × TH) :=
  (if t_kd h t = 5 then (fX6_twinOf h t a1 a2).bind fun q2 => (fX6_twinOfParent h t a1).bind fun q3 => (if q2 = none then (if q3 = none then some (q2, h) else a1.bind fun p6 => (if t_kd h p6 = 6 then (fX6_grow h t q3 (t_I h p6 4) (t_R h p6 5)).bind fun q8 => some (q8.1, q8.2) else none)) else some (q2, h)) else none)
set_option maxHeartbeats 4000000 in
set_option maxRecDepth 100000 in
theorem ctX6_twinOrNew {l : Launch} {g : xG} (hl : l.stackTraces = false) {r : Option Nat × TH} (h : TH) (t : Nat) (a1 : Option Nat) (a2 : Option Nat) (hf : fX6_twinOrNew h t a1 a2 = some r) : CT yX6_twinOrNew MX6_twinOrNew rmX6_twinOrNew l g [va_rf (some t), va_rf a1, va_rf a2] (thE g h) (.inl (some (va_rf r.1))) (thE g r.2) := by
  rw [fX6_twinOrNew] at hf
  refine CT.of (lv0 := [(0, va_rf (some t)), (1, va_rf a1), (2, va_rf a2)]) (by decide +kernel) rfl rfl (by simp [lg_sl, cat_q, cat_i, cat_l, cat_r]) (by simp [lv_args, cat_q, cat_i, cat_l, cat_r]) hl ?_
  refine aw_qload_n 0 dX6_twinOrNew_0 rfl ?_
  refine aw_qload_n 1 dX6_twinOrNew_1 rfl ?_
  refine aw_qload_n 2 dX6_twinOrNew_2 rfl ?_
  obtain ⟨hk_1, hf⟩ := xifn hf
  obtain ⟨q2, hq2, hf⟩ := xbind hf
  refine aw_callV 4 (some t) [va_rf a1, va_rf a2] 2 rfl (thC_ob (h := h) hk_1 (by decide)) rfl rfl (ctX6_twinOf hl _ _ _ _ hq2) ⟨wl3 (i := 147) rfl rfl, ciX6_twinOf⟩ (wl3 (i := 149) rfl rfl) (wl0 (i := 15) rfl rfl) dX6_twinOrNew_3 rfl rfl (Nat.le_of_ble_eq_true rfl) ⟨Nat.le_of_ble_eq_true rfl, Nat.le_of_ble_eq_true rfl⟩ ⟨Nat.le_of_ble_eq_true rfl, Nat.le_of_ble_eq_true rfl⟩ ?_
  refine aw_qstore_n (i := 3) [(3, va_rf q2), (0, va_rf (some t)), (1, va_rf a1), (2, va_rf a2)] dX6_twinOrNew_6 rfl (by decide) (by simp [cat_q, cat_i, cat_l, cat_r]) ?_
  refine aw_qload_n 1 dX6_twinOrNew_7 rfl ?_
  refine aw_qload_n 2 dX6_twinOrNew_8 rfl ?_
  obtain ⟨q3, hq3, hf⟩ := xbind hf
  refine aw_callV 4 (some t) [va_rf a1] 1 rfl (thC_ob (h := h) hk_1 (by decide)) rfl rfl (ctX6_twinOfParent hl _ _ _ hq3) ⟨wl3 (i := 151) rfl rfl, ciX6_twinOfParent⟩ (wl3 (i := 153) rfl rfl) (wl0 (i := 16) rfl rfl) dX6_twinOrNew_9 rfl rfl (Nat.le_of_ble_eq_true rfl) ⟨Nat.le_of_ble_eq_true rfl, Nat.le_of_ble_eq_true rfl⟩ ⟨Nat.le_of_ble_eq_true rfl, Nat.le_of_ble_eq_true rfl⟩ ?_
  refine aw_qstore [(4, va_rf q3), (3, va_rf q2), (0, va_rf (some t)), (1, va_rf a1), (2, va_rf a2)] dX6_twinOrNew_12 (by decide) (by simp [cat_q, cat_i, cat_l, cat_r]) ?_
  refine aw_qload_n 1 dX6_twinOrNew_14 rfl ?_
  refine aw_ifnonnull 40 dX6_twinOrNew_15 (by decide) (fun c4 => ?_) (fun c4 => ?_)
  · rw [if_neg c4] at hf
    refine aw_qload_n 1 dX6_twinOrNew_40 rfl ?_
    cases hf
    exact aw_aret "AtariGarden$Twig" dX6_twinOrNew_41 rfl rfl rfl ⟨Nat.le_of_ble_eq_true rfl, Nat.le_of_ble_eq_true rfl⟩
  · rw [if_pos c4] at hf
    refine aw_qload 0 dX6_twinOrNew_18 rfl ?_
    refine aw_ifnull 40 dX6_twinOrNew_20 (by decide) (fun c5 => ?_) (fun c5 => ?_)
    · rw [if_pos c5] at hf
      refine aw_qload_n 1 dX6_twinOrNew_40 rfl ?_
      cases hf
      exact aw_aret "AtariGarden$Twig" dX6_twinOrNew_41 rfl rfl rfl ⟨Nat.le_of_ble_eq_true rfl, Nat.le_of_ble_eq_true rfl⟩
    · rw [if_neg c5] at hf
      refine aw_qload_n 2 dX6_twinOrNew_23 rfl ?_
      refine aw_qload 0 dX6_twinOrNew_24 rfl ?_
      refine aw_qload_n 3 dX6_twinOrNew_26 rfl ?_
      obtain ⟨p6, hp6, hf⟩ := xbind hf
      obtain ⟨hk_7, hf⟩ := xifn hf
      refine th_getIN "AtariGarden" 5 4 inX7 hp6 hk_7 rfl ⟨by decide, by decide, rfl⟩ (wm3 (i := 69) rfl) dX6_twinOrNew_27 ?_
      refine aw_qload_n 3 dX6_twinOrNew_30 rfl ?_
      refine th_getRN "AtariGarden" 5 5 inX7 hp6 hk_7 rfl ⟨by decide, by decide, rfl⟩ (wm3 (i := 71) rfl) dX6_twinOrNew_31 ?_
      obtain ⟨q8, hq8, hf⟩ := xbind hf
      refine aw_callV 4 (some t) [va_rf q3, .int (t_I h p6 4), va_rf (t_R h p6 5)] 3 rfl (thC_ob (h := h) hk_1 (by decide)) rfl rfl (ctX6_grow hl _ _ _ _ _ hq8) ⟨wl3 (i := 116) rfl rfl, ciX6_grow⟩ (wl3 (i := 118) rfl rfl) (wl0 (i := 13) rfl rfl) dX6_twinOrNew_34 rfl rfl (Nat.le_of_ble_eq_true rfl) ⟨Nat.le_of_ble_eq_true rfl, Nat.le_of_ble_eq_true rfl⟩ ⟨Nat.le_of_ble_eq_true rfl, Nat.le_of_ble_eq_true rfl⟩ ?_
      refine aw_goto 41 dX6_twinOrNew_37 (by decide) ?_
      cases hf
      exact aw_aret "AtariGarden$Twig" dX6_twinOrNew_41 rfl rfl rfl ⟨Nat.le_of_ble_eq_true rfl, Nat.le_of_ble_eq_true rfl⟩
abbrev MX7_takeMarks : xM := (RX7, cX7_takeMarks, 3, none, "takeMarks")
abbrev rmX7_takeMarks : Room := { frames := 0, cells := 0, slots := 0, locals := 0 }
theorem ciX7_takeMarks : Cond.code yX7_takeMarks cX7_takeMarks 3 none ∈ wt ∧ Cond.initialized yX7_takeMarks.cls ∈ wt ∧ (yX7_takeMarks.cls ≠ "java/lang/invoke/MethodHandle" ∧ yX7_takeMarks.cls ≠ "java/lang/invoke/VarHandle" ∧ (parseMethodDescriptor yX7_takeMarks.desc).map (fun d => d.parameters.length) = some 1) := ⟨wl3 (i := 162) rfl rfl, wl1 (i := 16) rfl rfl, by decide +kernel, by decide +kernel, by decide +kernel⟩
def fX7_takeMarks_41 (k2 : TH → Nat → Option Nat → Int32 → Option (TH)) (h : TH) (t : Nat) (a1 : Option Nat) (a2 : Int32) : Option (TH) :=
  k2 h t a1 (a2 + (1 : Int32))
set_option maxHeartbeats 4000000 in
set_option maxRecDepth 100000 in
theorem wkX7_takeMarks_41 {l : Launch} {g : xG} {x0 : xV} (hl : l.stackTraces = false) {r : TH} (k2 : TH → Nat → Option Nat → Int32 → Option (TH)) (hk2 : ∀ (h : TH) (t : Nat) (a1 : Option Nat) (a2 : Int32), k2 h t a1 a2 = some r → AW MX7_takeMarks rmX7_takeMarks l g x0 (.inl none) (thE g r) 0 0 (thE g h) 2 [(0, va_rf (some t)), (1, va_rf a1), (2, .int a2)] []) (h : TH) (t : Nat) (a1 : Option Nat) (a2 : Int32) (hf : fX7_takeMarks_41 k2 h t a1 a2 = some r) : AW MX7_takeMarks rmX7_takeMarks l g x0 (.inl none) (thE g r) 0 0 (thE g h) 41 [(0, va_rf (some t)), (1, va_rf a1), (2, .int a2)] [] := by
  rw [fX7_takeMarks_41] at hf
  refine aw_iinc [(2, .int (a2 + (1 : Int32))), (0, va_rf (some t)), (1, va_rf a1)] 2 dX7_takeMarks_41 rfl rfl (by decide) (by simp [cat_q, cat_i, cat_l, cat_r]) ?_
  refine aw_goto 2 dX7_takeMarks_44 (by decide) ?_
  refine aw_lv [1, 2, 0] rfl ?_
  exact hk2 _ _ _ _ hf
def fX7_takeMarks_2 : Nat → TH → Nat → Option Nat → Int32 → Option (TH)
  | 0, _, _, _, _ => none
  | n + 1, h, t, a1, a2 =>
    (if t_kd h t = 6 then (t_R h t 6).bind fun p2 => (if t_kd h p2 = 9 then (if (nI (t_ln h p2)) ≤ a2 then some h else a1.bind fun p5 => (if t_kd h p5 = 6 then (t_R h p5 6).bind fun p7 => (if t_kd h p7 = 9 then (if (nI (t_ln h p7)) ≤ a2 then some h else (if xin a2 (t_ln h p2) = true then (if (t_I h p2 a2.toNatClampNeg) = 0 then (if xin a2 (t_ln h p7) = true then (if xin a2 (t_ln h p2) = true then fX7_takeMarks_41 (fX7_takeMarks_2 n) (s_I h p2 a2.toNatClampNeg (t_I h p7 a2.toNatClampNeg)) t a1 a2 else none) else none) else fX7_takeMarks_41 (fX7_takeMarks_2 n) h t a1 a2) else none)) else none) else none)) else none) else none)
set_option maxHeartbeats 4000000 in
set_option maxRecDepth 100000 in
theorem wkX7_takeMarks_2 {l : Launch} {g : xG} {x0 : xV} (hl : l.stackTraces = false) {r : TH} : ∀ (n : Nat) (h : TH) (t : Nat) (a1 : Option Nat) (a2 : Int32), fX7_takeMarks_2 n h t a1 a2 = some r → AW MX7_takeMarks rmX7_takeMarks l g x0 (.inl none) (thE g r) 0 0 (thE g h) 2 [(0, va_rf (some t)), (1, va_rf a1), (2, .int a2)] [] := by
  intro n
  induction n with
  | zero => intro h t a1 a2 hf; exact absurd hf (by simp [fX7_takeMarks_2])
  | succ n hk2 =>
    intro h t a1 a2 hf
    rw [fX7_takeMarks_2] at hf
    refine aw_iload_n 2 dX7_takeMarks_2 rfl ?_
    refine aw_qload_n 0 dX7_takeMarks_3 rfl ?_
    obtain ⟨hk_1, hf⟩ := xifn hf
    refine th_getR 5 6 inX7 rfl hk_1 rfl ⟨by decide, by decide, rfl⟩ (wl3 (i := 72) rfl rfl) dX7_takeMarks_4 ?_
    obtain ⟨p2, hp2, hf⟩ := xbind hf
    obtain ⟨hk_3, hf⟩ := xifn hf
    refine th_alenI hp2 hk_3 dX7_takeMarks_7 ?_
    refine aw_icmp_ge 47 dX7_takeMarks_8 (by decide) (fun c4 => ?_) (fun c4 => ?_)
    · rw [if_pos c4] at hf
      cases hf
      exact aw_vret dX7_takeMarks_47 rfl rfl rfl ⟨Nat.le_of_ble_eq_true rfl, Nat.le_of_ble_eq_true rfl⟩
    · rw [if_neg c4] at hf
      refine aw_iload_n 2 dX7_takeMarks_11 rfl ?_
      refine aw_qload_n 1 dX7_takeMarks_12 rfl ?_
      obtain ⟨p5, hp5, hf⟩ := xbind hf
      obtain ⟨hk_6, hf⟩ := xifn hf
      refine th_getR 5 6 inX7 hp5 hk_6 rfl ⟨by decide, by decide, rfl⟩ (wl3 (i := 72) rfl rfl) dX7_takeMarks_13 ?_
      obtain ⟨p7, hp7, hf⟩ := xbind hf
      obtain ⟨hk_8, hf⟩ := xifn hf
      refine th_alenI hp7 hk_8 dX7_takeMarks_16 ?_
      refine aw_icmp_ge 47 dX7_takeMarks_17 (by decide) (fun c9 => ?_) (fun c9 => ?_)
      · rw [if_pos c9] at hf
        cases hf
        exact aw_vret dX7_takeMarks_47 rfl rfl rfl ⟨Nat.le_of_ble_eq_true rfl, Nat.le_of_ble_eq_true rfl⟩
      · rw [if_neg c9] at hf
        refine aw_qload_n 0 dX7_takeMarks_20 rfl ?_
        refine th_getR 5 6 inX7 rfl hk_1 rfl ⟨by decide, by decide, rfl⟩ (wl3 (i := 72) rfl rfl) dX7_takeMarks_21 ?_
        refine aw_iload_n 2 dX7_takeMarks_24 rfl ?_
        obtain ⟨hi10, hf⟩ := xifn hf
        refine th_iald hp2 hk_3 (xin_v hi10) dX7_takeMarks_25 ?_
        refine aw_if_ne 41 dX7_takeMarks_26 (by decide) (fun c11 => ?_) (fun c11 => ?_)
        · rw [if_neg c11] at hf
          refine aw_lv [0, 1, 2] rfl ?_
          exact wkX7_takeMarks_41 hl _ hk2 _ _ _ _ hf
        · rw [if_pos c11] at hf
          refine aw_qload_n 0 dX7_takeMarks_29 rfl ?_
          refine th_getR 5 6 inX7 rfl hk_1 rfl ⟨by decide, by decide, rfl⟩ (wl3 (i := 72) rfl rfl) dX7_takeMarks_30 ?_
          refine aw_iload_n 2 dX7_takeMarks_33 rfl ?_
          refine aw_qload_n 1 dX7_takeMarks_34 rfl ?_
          refine th_getR 5 6 inX7 hp5 hk_6 rfl ⟨by decide, by decide, rfl⟩ (wl3 (i := 72) rfl rfl) dX7_takeMarks_35 ?_
          refine aw_iload_n 2 dX7_takeMarks_38 rfl ?_
          obtain ⟨hi12, hf⟩ := xifn hf
          refine th_iald hp7 hk_8 (xin_v hi12) dX7_takeMarks_39 ?_
          obtain ⟨hi13, hf⟩ := xifn hf
          refine th_iast hp2 hk_3 (xin_v hi13) dX7_takeMarks_40 ?_
          refine aw_lv [0, 1, 2] rfl ?_
          exact wkX7_takeMarks_41 hl _ hk2 _ _ _ _ hf
def fX7_takeMarks (h : TH) (t : Nat) (a1 : Option Nat) : Option (TH) :=
  fX7_takeMarks_2 FU h t a1 (0 : Int32)
set_option maxHeartbeats 4000000 in
set_option maxRecDepth 100000 in
theorem ctX7_takeMarks {l : Launch} {g : xG} (hl : l.stackTraces = false) {r : TH} (h : TH) (t : Nat) (a1 : Option Nat) (hf : fX7_takeMarks h t a1 = some r) : CT yX7_takeMarks MX7_takeMarks rmX7_takeMarks l g [va_rf (some t), va_rf a1] (thE g h) (.inl none) (thE g r) := by
  rw [fX7_takeMarks] at hf
  refine CT.of (lv0 := [(0, va_rf (some t)), (1, va_rf a1)]) (by decide +kernel) rfl rfl (by simp [lg_sl, cat_q, cat_i, cat_l, cat_r]) (by simp [lv_args, cat_q, cat_i, cat_l, cat_r]) hl ?_
  refine aw_iconst (0 : Int32) dX7_takeMarks_0 (by decide) ?_
  refine aw_istore_n (i := 2) [(2, .int (0 : Int32)), (0, va_rf (some t)), (1, va_rf a1)] dX7_takeMarks_1 rfl (by decide) (by simp [cat_q, cat_i, cat_l, cat_r]) ?_
  refine aw_lv [1, 2, 0] rfl ?_
  exact wkX7_takeMarks_2 hl _ _ _ _ _ hf
abbrev MX6_init : xM := (RX6, cX6_init, 1, none, "<init>")
abbrev rmX6_init : Room := { frames := 1, cells := 2, slots := 120, locals := 20 }
theorem ciX6_init : Cond.code yX6_init cX6_init 1 none ∈ wt ∧ Cond.initialized yX6_init.cls ∈ wt ∧ (yX6_init.cls ≠ "java/lang/invoke/MethodHandle" ∧ yX6_init.cls ≠ "java/lang/invoke/VarHandle" ∧ (parseMethodDescriptor yX6_init.desc).map (fun d => d.parameters.length) = some 0) := ⟨wl1 (i := 59) rfl rfl, wl1 (i := 3) rfl rfl, by decide +kernel, by decide +kernel, by decide +kernel⟩
def fX6_init (h : TH) (t : Nat) : Option (TH) :=
  (if t_kd (s_N h 13 60) t = 5 then (if t_kd (s_N (s_R (s_N h 13 60) t 0 (some (t_sz h))) 13 60) t = 5 then some (s_R (s_N (s_R (s_N h 13 60) t 0 (some (t_sz h))) 13 60) t 1 (some (t_sz (s_R (s_N h 13 60) t 0 (some (t_sz h)))))) else none) else none)
set_option maxHeartbeats 4000000 in
set_option maxRecDepth 100000 in
theorem ctX6_init {l : Launch} {g : xG} (hl : l.stackTraces = false) {r : TH} (h : TH) (t : Nat) (hf : fX6_init h t = some r) : CT yX6_init MX6_init rmX6_init l g [va_rf (some t)] (thE g h) (.inl none) (thE g r) := by
  rw [fX6_init] at hf
  refine CT.of (lv0 := [(0, va_rf (some t))]) (by decide +kernel) rfl rfl (by simp [lg_sl, cat_q, cat_i, cat_l, cat_r]) (by simp [lv_args, cat_q, cat_i, cat_l, cat_r]) hl ?_
  refine aw_qload_n 0 dX6_init_0 rfl ?_
  refine aw_objInit (r := (some t)) rfl (wl1 (i := 60) rfl rfl) dX6_init_1 (Nat.le_of_ble_eq_true rfl) ⟨Nat.le_of_ble_eq_true rfl, Nat.le_of_ble_eq_true rfl⟩ (wl1 (i := 24) rfl rfl) (wl1 (i := 25) rfl rfl) ?_
  refine aw_qload_n 0 dX6_init_4 rfl ?_
  refine aw_bipush (60 : Int32) dX6_init_5 (by decide) ?_
  refine th_newT 60 (wl1 (i := 61) rfl rfl) (by decide) (by decide) (by decide) ⟨Nat.le_of_ble_eq_true rfl, Nat.le_of_ble_eq_true rfl⟩ dX6_init_7 ?_
  obtain ⟨hk_1, hf⟩ := xifn hf
  refine th_putRF 4 0 xtX6 rfl hk_1 rfl ⟨by decide, by decide, rfl⟩ rfl (nar_qa _ _) (fit_qa _ _) (wl1 (i := 63) rfl rfl) rfl rfl rfl dX6_init_10 ?_
  refine aw_qload_n 0 dX6_init_13 rfl ?_
  refine aw_bipush (60 : Int32) dX6_init_14 (by decide) ?_
  refine th_newT 60 (wl1 (i := 61) rfl rfl) (by decide) (by decide) (by decide) ⟨Nat.le_of_ble_eq_true rfl, Nat.le_of_ble_eq_true rfl⟩ dX6_init_16 ?_
  obtain ⟨hk_2, hf⟩ := xifn hf
  refine th_putRF 4 1 xtX6 rfl hk_2 rfl ⟨by decide, by decide, rfl⟩ rfl (nar_qa _ _) (fit_qa _ _) (wl1 (i := 64) rfl rfl) rfl rfl rfl dX6_init_19 ?_
  cases hf
  exact aw_vret dX6_init_22 rfl rfl rfl ⟨Nat.le_of_ble_eq_true rfl, Nat.le_of_ble_eq_true rfl⟩
abbrev MX6_twigAt : xM := (RX6, cX6_twigAt, 2, (some (.object "AtariGarden$Twig")), "twigAt")
abbrev rmX6_twigAt : Room := { frames := 0, cells := 0, slots := 0, locals := 0 }
theorem ciX6_twigAt : Cond.code yX6_twigAt cX6_twigAt 2 (some (.object "AtariGarden$Twig")) ∈ wt ∧ Cond.initialized yX6_twigAt.cls ∈ wt ∧ (yX6_twigAt.cls ≠ "java/lang/invoke/MethodHandle" ∧ yX6_twigAt.cls ≠ "java/lang/invoke/VarHandle" ∧ (parseMethodDescriptor yX6_twigAt.desc).map (fun d => d.parameters.length) = some 1) := ⟨wl3 (i := 104) rfl rfl, wl1 (i := 3) rfl rfl, by decide +kernel, by decide +kernel, by decide +kernel⟩
def fX6_twigAt (h : TH) (t : Nat) (a1 : Int32) : Option (Option Nat) :=
  (if a1 < 0 then some none else (if t_kd h t = 5 then (t_R h t 0).bind fun p3 => (if t_kd h p3 = 13 then (if a1 < (nI (t_ln h p3)) then (if xin a1 (t_ln h p3) = true then some (t_R h p3 a1.toNatClampNeg) else none) else some none) else none) else none))
set_option maxHeartbeats 4000000 in
set_option maxRecDepth 100000 in
theorem ctX6_twigAt {l : Launch} {g : xG} (hl : l.stackTraces = false) {r : Option Nat} (h : TH) (t : Nat) (a1 : Int32) (hf : fX6_twigAt h t a1 = some r) : CT yX6_twigAt MX6_twigAt rmX6_twigAt l g [va_rf (some t), .int a1] (thE g h) (.inl (some (va_rf r))) (thE g h) := by
  rw [fX6_twigAt] at hf
  refine CT.of (lv0 := [(0, va_rf (some t)), (1, .int a1)]) (by decide +kernel) rfl rfl (by simp [lg_sl, cat_q, cat_i, cat_l, cat_r]) (by simp [lv_args, cat_q, cat_i, cat_l, cat_r]) hl ?_
  refine aw_iload_n 1 dX6_twigAt_0 rfl ?_
  refine aw_if_lt 13 dX6_twigAt_1 (by decide) (fun c1 => ?_) (fun c1 => ?_)
  · rw [if_pos c1] at hf
    refine aw_null dX6_twigAt_13 ?_
    refine aw_goto 23 dX6_twigAt_14 (by decide) ?_
    cases hf
    exact aw_aret "AtariGarden$Twig" dX6_twigAt_23 rfl rfl rfl ⟨Nat.le_of_ble_eq_true rfl, Nat.le_of_ble_eq_true rfl⟩
  · rw [if_neg c1] at hf
    refine aw_iload_n 1 dX6_twigAt_4 rfl ?_
    refine aw_qload_n 0 dX6_twigAt_5 rfl ?_
    obtain ⟨hk_2, hf⟩ := xifn hf
    refine th_getR 4 0 inX6 rfl hk_2 rfl ⟨by decide, by decide, rfl⟩ (wl1 (i := 63) rfl rfl) dX6_twigAt_6 ?_
    obtain ⟨p3, hp3, hf⟩ := xbind hf
    obtain ⟨hk_4, hf⟩ := xifn hf
    refine th_alenT hp3 hk_4 dX6_twigAt_9 ?_
    refine aw_icmp_lt 17 dX6_twigAt_10 (by decide) (fun c5 => ?_) (fun c5 => ?_)
    · rw [if_pos c5] at hf
      refine aw_qload_n 0 dX6_twigAt_17 rfl ?_
      refine th_getR 4 0 inX6 rfl hk_2 rfl ⟨by decide, by decide, rfl⟩ (wl1 (i := 63) rfl rfl) dX6_twigAt_18 ?_
      refine aw_iload_n 1 dX6_twigAt_21 rfl ?_
      obtain ⟨hi6, hf⟩ := xifn hf
      refine th_aaldT hp3 hk_4 (xin_v hi6) dX6_twigAt_22 ?_
      cases hf
      exact aw_aret "AtariGarden$Twig" dX6_twigAt_23 rfl rfl rfl ⟨Nat.le_of_ble_eq_true rfl, Nat.le_of_ble_eq_true rfl⟩
    · rw [if_neg c5] at hf
      refine aw_null dX6_twigAt_13 ?_
      refine aw_goto 23 dX6_twigAt_14 (by decide) ?_
      cases hf
      exact aw_aret "AtariGarden$Twig" dX6_twigAt_23 rfl rfl rfl ⟨Nat.le_of_ble_eq_true rfl, Nat.le_of_ble_eq_true rfl⟩
abbrev MX7_beginsAs : xM := (RX7, cX7_beginsAs, 2, (some .boolean), "beginsAs")
abbrev rmX7_beginsAs : Room := { frames := 0, cells := 0, slots := 0, locals := 0 }
theorem ciX7_beginsAs : Cond.code yX7_beginsAs cX7_beginsAs 2 (some .boolean) ∈ wt ∧ Cond.initialized yX7_beginsAs.cls ∈ wt ∧ (yX7_beginsAs.cls ≠ "java/lang/invoke/MethodHandle" ∧ yX7_beginsAs.cls ≠ "java/lang/invoke/VarHandle" ∧ (parseMethodDescriptor yX7_beginsAs.desc).map (fun d => d.parameters.length) = some 1) := ⟨wl3 (i := 137) rfl rfl, wl1 (i := 16) rfl rfl, by decide +kernel, by decide +kernel, by decide +kernel⟩
def fX7_beginsAs (h : TH) (t : Nat) (a1 : Option Nat) : Option (Bool) :=
  (if t_kd h t = 6 then (if (t_R h t 3) = none then a1.bind fun p3 => (if t_kd h p3 = 6 then (if (t_R h p3 3) = none then (if (t_I h t 2) = (t_I h p3 2) then (t_R h t 5).bind fun p7 => (if t_kd h p7 = 4 then (t_R h p3 5).bind fun p9 => (if t_kd h p9 = 4 then (if (t_I h p7 3) = (t_I h p9 3) then some true else some false) else none) else none) else some false) else some false) else none) else some false) else none)
set_option maxHeartbeats 4000000 in
set_option maxRecDepth 100000 in
theorem ctX7_beginsAs {l : Launch} {g : xG} (hl : l.stackTraces = false) {r : Bool} (h : TH) (t : Nat) (a1 : Option Nat) (hf : fX7_beginsAs h t a1 = some r) : CT yX7_beginsAs MX7_beginsAs rmX7_beginsAs l g [va_rf (some t), va_rf a1] (thE g h) (.inl (some (.int (bi r)))) (thE g h) := by
  rw [fX7_beginsAs] at hf
  refine CT.of (lv0 := [(0, va_rf (some t)), (1, va_rf a1)]) (by decide +kernel) rfl rfl (by simp [lg_sl, cat_q, cat_i, cat_l, cat_r]) (by simp [lv_args, cat_q, cat_i, cat_l, cat_r]) hl ?_
  refine aw_qload_n 0 dX7_beginsAs_0 rfl ?_
  obtain ⟨hk_1, hf⟩ := xifn hf
  refine th_getR 5 3 inX7 rfl hk_1 rfl ⟨by decide, by decide, rfl⟩ (wl3 (i := 66) rfl rfl) dX7_beginsAs_1 ?_
  refine aw_ifnonnull 46 dX7_beginsAs_4 (by decide) (fun c2 => ?_) (fun c2 => ?_)
  · rw [if_neg c2] at hf
    refine aw_iconst (0 : Int32) dX7_beginsAs_46 (by decide) ?_
    cases hf
    exact aw_zret dX7_beginsAs_47 rfl rfl rfl rfl ⟨Nat.le_of_ble_eq_true rfl, Nat.le_of_ble_eq_true rfl⟩
  · rw [if_pos c2] at hf
    refine aw_qload_n 1 dX7_beginsAs_7 rfl ?_
    obtain ⟨p3, hp3, hf⟩ := xbind hf
    obtain ⟨hk_4, hf⟩ := xifn hf
    refine th_getR 5 3 inX7 hp3 hk_4 rfl ⟨by decide, by decide, rfl⟩ (wl3 (i := 66) rfl rfl) dX7_beginsAs_8 ?_
    refine aw_ifnonnull 46 dX7_beginsAs_11 (by decide) (fun c5 => ?_) (fun c5 => ?_)
    · rw [if_neg c5] at hf
      refine aw_iconst (0 : Int32) dX7_beginsAs_46 (by decide) ?_
      cases hf
      exact aw_zret dX7_beginsAs_47 rfl rfl rfl rfl ⟨Nat.le_of_ble_eq_true rfl, Nat.le_of_ble_eq_true rfl⟩
    · rw [if_pos c5] at hf
      refine aw_qload_n 0 dX7_beginsAs_14 rfl ?_
      refine th_getI 5 2 inX7 rfl hk_1 rfl ⟨by decide, by decide, rfl⟩ (wl3 (i := 64) rfl rfl) dX7_beginsAs_15 ?_
      refine aw_qload_n 1 dX7_beginsAs_18 rfl ?_
      refine th_getI 5 2 inX7 hp3 hk_4 rfl ⟨by decide, by decide, rfl⟩ (wl3 (i := 64) rfl rfl) dX7_beginsAs_19 ?_
      refine aw_icmp_ne 46 dX7_beginsAs_22 (by decide) (fun c6 => ?_) (fun c6 => ?_)
      · rw [if_neg c6] at hf
        refine aw_iconst (0 : Int32) dX7_beginsAs_46 (by decide) ?_
        cases hf
        exact aw_zret dX7_beginsAs_47 rfl rfl rfl rfl ⟨Nat.le_of_ble_eq_true rfl, Nat.le_of_ble_eq_true rfl⟩
      · rw [if_pos c6] at hf
        refine aw_qload_n 0 dX7_beginsAs_25 rfl ?_
        refine th_getR 5 5 inX7 rfl hk_1 rfl ⟨by decide, by decide, rfl⟩ (wl3 (i := 70) rfl rfl) dX7_beginsAs_26 ?_
        obtain ⟨p7, hp7, hf⟩ := xbind hf
        obtain ⟨hk_8, hf⟩ := xifn hf
        refine th_getIN "AtariGarden" 3 3 inX4 hp7 hk_8 rfl ⟨by decide, by decide, rfl⟩ (wm2 (i := 69) rfl) dX7_beginsAs_29 ?_
        refine aw_qload_n 1 dX7_beginsAs_32 rfl ?_
        refine th_getR 5 5 inX7 hp3 hk_4 rfl ⟨by decide, by decide, rfl⟩ (wl3 (i := 70) rfl rfl) dX7_beginsAs_33 ?_
        obtain ⟨p9, hp9, hf⟩ := xbind hf
        obtain ⟨hk_10, hf⟩ := xifn hf
        refine th_getIN "AtariGarden" 3 3 inX4 hp9 hk_10 rfl ⟨by decide, by decide, rfl⟩ (wm2 (i := 69) rfl) dX7_beginsAs_36 ?_
        refine aw_icmp_ne 46 dX7_beginsAs_39 (by decide) (fun c11 => ?_) (fun c11 => ?_)
        · rw [if_neg c11] at hf
          refine aw_iconst (0 : Int32) dX7_beginsAs_46 (by decide) ?_
          cases hf
          exact aw_zret dX7_beginsAs_47 rfl rfl rfl rfl ⟨Nat.le_of_ble_eq_true rfl, Nat.le_of_ble_eq_true rfl⟩
        · rw [if_pos c11] at hf
          refine aw_iconst (1 : Int32) dX7_beginsAs_42 (by decide) ?_
          refine aw_goto 47 dX7_beginsAs_43 (by decide) ?_
          cases hf
          exact aw_zret dX7_beginsAs_47 rfl rfl rfl rfl ⟨Nat.le_of_ble_eq_true rfl, Nat.le_of_ble_eq_true rfl⟩
abbrev MX7_changeMark : xM := (RX7, cX7_changeMark, 4, (some .int), "changeMark")
abbrev rmX7_changeMark : Room := { frames := 0, cells := 0, slots := 0, locals := 0 }
theorem ciX7_changeMark : Cond.code yX7_changeMark cX7_changeMark 4 (some .int) ∈ wt ∧ Cond.initialized yX7_changeMark.cls ∈ wt ∧ (yX7_changeMark.cls ≠ "java/lang/invoke/MethodHandle" ∧ yX7_changeMark.cls ≠ "java/lang/invoke/VarHandle" ∧ (parseMethodDescriptor yX7_changeMark.desc).map (fun d => d.parameters.length) = some 2) := ⟨wl3 (i := 129) rfl rfl, wl1 (i := 16) rfl rfl, by decide +kernel, by decide +kernel, by decide +kernel⟩
def fX7_changeMark (h : TH) (t : Nat) (a1 : Int32) (a2 : Int32) : Option (Int32 × TH) :=
  (if a1 < 0 then some ((0 : Int32), h) else (if t_kd h t = 6 then (t_R h t 6).bind fun p3 => (if t_kd h p3 = 9 then (if a1 < (nI (t_ln h p3)) then (if xin a1 (t_ln h p3) = true then (if xin a1 (t_ln h p3) = true then some ((t_I h p3 a1.toNatClampNeg), (s_I h p3 a1.toNatClampNeg a2)) else none) else none) else some ((0 : Int32), h)) else none) else none))
set_option maxHeartbeats 4000000 in
set_option maxRecDepth 100000 in
theorem ctX7_changeMark {l : Launch} {g : xG} (hl : l.stackTraces = false) {r : Int32 × TH} (h : TH) (t : Nat) (a1 : Int32) (a2 : Int32) (hf : fX7_changeMark h t a1 a2 = some r) : CT yX7_changeMark MX7_changeMark rmX7_changeMark l g [va_rf (some t), .int a1, .int a2] (thE g h) (.inl (some (.int r.1))) (thE g r.2) := by
  rw [fX7_changeMark] at hf
  refine CT.of (lv0 := [(0, va_rf (some t)), (1, .int a1), (2, .int a2)]) (by decide +kernel) rfl rfl (by simp [lg_sl, cat_q, cat_i, cat_l, cat_r]) (by simp [lv_args, cat_q, cat_i, cat_l, cat_r]) hl ?_
  refine aw_iload_n 1 dX7_changeMark_0 rfl ?_
  refine aw_if_lt 13 dX7_changeMark_1 (by decide) (fun c1 => ?_) (fun c1 => ?_)
  · rw [if_pos c1] at hf
    refine aw_iconst (0 : Int32) dX7_changeMark_13 (by decide) ?_
    cases hf
    exact aw_iret dX7_changeMark_14 rfl rfl rfl ⟨Nat.le_of_ble_eq_true rfl, Nat.le_of_ble_eq_true rfl⟩
  · rw [if_neg c1] at hf
    refine aw_iload_n 1 dX7_changeMark_4 rfl ?_
    refine aw_qload_n 0 dX7_changeMark_5 rfl ?_
    obtain ⟨hk_2, hf⟩ := xifn hf
    refine th_getR 5 6 inX7 rfl hk_2 rfl ⟨by decide, by decide, rfl⟩ (wl3 (i := 72) rfl rfl) dX7_changeMark_6 ?_
    obtain ⟨p3, hp3, hf⟩ := xbind hf
    obtain ⟨hk_4, hf⟩ := xifn hf
    refine th_alenI hp3 hk_4 dX7_changeMark_9 ?_
    refine aw_icmp_lt 15 dX7_changeMark_10 (by decide) (fun c5 => ?_) (fun c5 => ?_)
    · rw [if_pos c5] at hf
      refine aw_qload_n 0 dX7_changeMark_15 rfl ?_
      refine th_getR 5 6 inX7 rfl hk_2 rfl ⟨by decide, by decide, rfl⟩ (wl3 (i := 72) rfl rfl) dX7_changeMark_16 ?_
      refine aw_iload_n 1 dX7_changeMark_19 rfl ?_
      obtain ⟨hi6, hf⟩ := xifn hf
      refine th_iald hp3 hk_4 (xin_v hi6) dX7_changeMark_20 ?_
      refine aw_istore_n [(3, .int (t_I h p3 a1.toNatClampNeg)), (0, va_rf (some t)), (1, .int a1), (2, .int a2)] dX7_changeMark_21 rfl (by decide) rfl ?_
      refine aw_qload_n 1 dX7_changeMark_22 rfl ?_
      refine th_getR 5 6 inX7 rfl hk_2 rfl ⟨by decide, by decide, rfl⟩ (wl3 (i := 72) rfl rfl) dX7_changeMark_23 ?_
      refine aw_iload_n 2 dX7_changeMark_26 rfl ?_
      refine aw_iload_n 3 dX7_changeMark_27 rfl ?_
      obtain ⟨hi7, hf⟩ := xifn hf
      refine th_iast hp3 hk_4 (xin_v hi7) dX7_changeMark_28 ?_
      refine aw_iload_n 0 dX7_changeMark_29 rfl ?_
      cases hf
      exact aw_iret dX7_changeMark_30 rfl rfl rfl ⟨Nat.le_of_ble_eq_true rfl, Nat.le_of_ble_eq_true rfl⟩
    · rw [if_neg c5] at hf
      refine aw_iconst (0 : Int32) dX7_changeMark_13 (by decide) ?_
      cases hf
      exact aw_iret dX7_changeMark_14 rfl rfl rfl ⟨Nat.le_of_ble_eq_true rfl, Nat.le_of_ble_eq_true rfl⟩
abbrev MX7_hasMark : xM := (RX7, cX7_hasMark, 3, (some .boolean), "hasMark")
abbrev rmX7_hasMark : Room := { frames := 0, cells := 0, slots := 0, locals := 0 }
theorem ciX7_hasMark : Cond.code yX7_hasMark cX7_hasMark 3 (some .boolean) ∈ wt ∧ Cond.initialized yX7_hasMark.cls ∈ wt ∧ (yX7_hasMark.cls ≠ "java/lang/invoke/MethodHandle" ∧ yX7_hasMark.cls ≠ "java/lang/invoke/VarHandle" ∧ (parseMethodDescriptor yX7_hasMark.desc).map (fun d => d.parameters.length) = some 1) := ⟨wl4 (i := 33) rfl rfl, wl1 (i := 16) rfl rfl, by decide +kernel, by decide +kernel, by decide +kernel⟩
def fX7_hasMark_2 : Nat → TH → Nat → Int32 → Int32 → Option (Bool)
  | 0, _, _, _, _ => none
  | n + 1, h, t, a1, a2 =>
    (if t_kd h t = 6 then (t_R h t 6).bind fun p2 => (if t_kd h p2 = 9 then (if (nI (t_ln h p2)) ≤ a2 then some false else (if xin a2 (t_ln h p2) = true then (if (t_I h p2 a2.toNatClampNeg) = a1 then some true else fX7_hasMark_2 n h t a1 (a2 + (1 : Int32))) else none)) else none) else none)
set_option maxHeartbeats 4000000 in
set_option maxRecDepth 100000 in
theorem wkX7_hasMark_2 {l : Launch} {g : xG} {x0 : xV} (hl : l.stackTraces = false) {r : Bool} : ∀ (n : Nat) (h : TH) (t : Nat) (a1 : Int32) (a2 : Int32), fX7_hasMark_2 n h t a1 a2 = some r → AW MX7_hasMark rmX7_hasMark l g x0 (.inl (some (.int (bi r)))) (thE g h) 0 0 (thE g h) 2 [(0, va_rf (some t)), (1, .int a1), (2, .int a2)] [] := by
  intro n
  induction n with
  | zero => intro h t a1 a2 hf; exact absurd hf (by simp [fX7_hasMark_2])
  | succ n hk2 =>
    intro h t a1 a2 hf
    rw [fX7_hasMark_2] at hf
    refine aw_iload_n 2 dX7_hasMark_2 rfl ?_
    refine aw_qload_n 0 dX7_hasMark_3 rfl ?_
    obtain ⟨hk_1, hf⟩ := xifn hf
    refine th_getR 5 6 inX7 rfl hk_1 rfl ⟨by decide, by decide, rfl⟩ (wl3 (i := 72) rfl rfl) dX7_hasMark_4 ?_
    obtain ⟨p2, hp2, hf⟩ := xbind hf
    obtain ⟨hk_3, hf⟩ := xifn hf
    refine th_alenI hp2 hk_3 dX7_hasMark_7 ?_
    refine aw_icmp_ge 29 dX7_hasMark_8 (by decide) (fun c4 => ?_) (fun c4 => ?_)
    · rw [if_pos c4] at hf
      refine aw_iconst (0 : Int32) dX7_hasMark_29 (by decide) ?_
      cases hf
      exact aw_zret dX7_hasMark_30 rfl rfl rfl rfl ⟨Nat.le_of_ble_eq_true rfl, Nat.le_of_ble_eq_true rfl⟩
    · rw [if_neg c4] at hf
      refine aw_qload_n 0 dX7_hasMark_11 rfl ?_
      refine th_getR 5 6 inX7 rfl hk_1 rfl ⟨by decide, by decide, rfl⟩ (wl3 (i := 72) rfl rfl) dX7_hasMark_12 ?_
      refine aw_iload_n 2 dX7_hasMark_15 rfl ?_
      obtain ⟨hi5, hf⟩ := xifn hf
      refine th_iald hp2 hk_3 (xin_v hi5) dX7_hasMark_16 ?_
      refine aw_iload_n 1 dX7_hasMark_17 rfl ?_
      refine aw_icmp_ne 23 dX7_hasMark_18 (by decide) (fun c6 => ?_) (fun c6 => ?_)
      · rw [if_neg c6] at hf
        refine aw_iinc [(2, .int (a2 + (1 : Int32))), (0, va_rf (some t)), (1, .int a1)] 2 dX7_hasMark_23 rfl rfl (by decide) rfl ?_
        refine aw_goto 2 dX7_hasMark_26 (by decide) ?_
        refine aw_lv [1, 2, 0] rfl ?_
        exact hk2 _ _ _ _ hf
      · rw [if_pos c6] at hf
        refine aw_iconst (1 : Int32) dX7_hasMark_21 (by decide) ?_
        cases hf
        exact aw_zret dX7_hasMark_22 rfl rfl rfl rfl ⟨Nat.le_of_ble_eq_true rfl, Nat.le_of_ble_eq_true rfl⟩
def fX7_hasMark (h : TH) (t : Nat) (a1 : Int32) : Option (Bool) :=
  fX7_hasMark_2 FU h t a1 (0 : Int32)
set_option maxHeartbeats 4000000 in
set_option maxRecDepth 100000 in
theorem ctX7_hasMark {l : Launch} {g : xG} (hl : l.stackTraces = false) {r : Bool} (h : TH) (t : Nat) (a1 : Int32) (hf : fX7_hasMark h t a1 = some r) : CT yX7_hasMark MX7_hasMark rmX7_hasMark l g [va_rf (some t), .int a1] (thE g h) (.inl (some (.int (bi r)))) (thE g h) := by
  rw [fX7_hasMark] at hf
  refine CT.of (lv0 := [(0, va_rf (some t)), (1, .int a1)]) (by decide +kernel) rfl rfl (by simp [lg_sl, cat_q, cat_i, cat_l, cat_r]) (by simp [lv_args, cat_q, cat_i, cat_l, cat_r]) hl ?_
  refine aw_iconst (0 : Int32) dX7_hasMark_0 (by decide) ?_
  refine aw_istore_n [(2, .int (0 : Int32)), (0, va_rf (some t)), (1, .int a1)] dX7_hasMark_1 rfl (by decide) rfl ?_
  refine aw_lv [1, 2, 0] rfl ?_
  exact wkX7_hasMark_2 hl _ _ _ _ _ hf
abbrev MX7_told : xM := (RX7, cX7_told, 2, (some .int), "told")
abbrev rmX7_told : Room := { frames := 1, cells := 0, slots := 0, locals := 22 }
theorem ciX7_told : Cond.code yX7_told cX7_told 2 (some .int) ∈ wt ∧ Cond.initialized yX7_told.cls ∈ wt ∧ (yX7_told.cls ≠ "java/lang/invoke/MethodHandle" ∧ yX7_told.cls ≠ "java/lang/invoke/VarHandle" ∧ (parseMethodDescriptor yX7_told.desc).map (fun d => d.parameters.length) = some 0) := ⟨wl4 (i := 29) rfl rfl, wl1 (i := 16) rfl rfl, by decide +kernel, by decide +kernel, by decide +kernel⟩
def fX7_told_50 (h : TH) (t : Nat) (s0 : Int32) (s1 : Int32) : Option (Int32) :=
  some (s0 + s1)
set_option maxHeartbeats 4000000 in
set_option maxRecDepth 100000 in
theorem wkX7_told_50 {l : Launch} {g : xG} {x0 : xV} (hl : l.stackTraces = false) {r : Int32} (h : TH) (t : Nat) (s0 : Int32) (s1 : Int32) (hf : fX7_told_50 h t s0 s1 = some r) : AW MX7_told rmX7_told l g x0 (.inl (some (.int r))) (thE g h) 0 0 (thE g h) 50 [] [.int s1, .int s0] := by
  rw [fX7_told_50] at hf
  refine aw_iadd dX7_told_50 ?_
  cases hf
  exact aw_iret dX7_told_51 rfl rfl rfl ⟨Nat.le_of_ble_eq_true rfl, Nat.le_of_ble_eq_true rfl⟩
def fX7_told_21 (h : TH) (t : Nat) (s0 : Int32) : Option (Int32) :=
  (if t_kd h t = 6 then (if s0 = 0 then fX7_told_50 h t (((1000 : Int32) * (t_I h t 7)) + ((10 : Int32) * ((t_I h t 4) - (-2 : Int32)))) (0 : Int32) else fX7_told_50 h t (((1000 : Int32) * (t_I h t 7)) + ((10 : Int32) * ((t_I h t 4) - (-2 : Int32)))) (1 : Int32)) else none)
set_option maxHeartbeats 4000000 in
set_option maxRecDepth 100000 in
theorem wkX7_told_21 {l : Launch} {g : xG} {x0 : xV} (hl : l.stackTraces = false) {r : Int32} (h : TH) (t : Nat) (s0 : Int32) (hf : fX7_told_21 h t s0 = some r) : AW MX7_told rmX7_told l g x0 (.inl (some (.int r))) (thE g h) 0 0 (thE g h) 21 [(0, va_rf (some t))] [.int s0] := by
  rw [fX7_told_21] at hf
  refine aw_istore_n [(1, .int s0), (0, va_rf (some t))] dX7_told_21 rfl (by decide) rfl ?_
  refine aw_sipush (1000 : Int32) dX7_told_22 (by decide) ?_
  refine aw_qload_n 1 dX7_told_25 rfl ?_
  obtain ⟨hk_1, hf⟩ := xifn hf
  refine th_getI 5 7 inX7 rfl hk_1 rfl ⟨by decide, by decide, rfl⟩ (wl3 (i := 73) rfl rfl) dX7_told_26 ?_
  refine aw_imul dX7_told_29 ?_
  refine aw_bipush (10 : Int32) dX7_told_30 (by decide) ?_
  refine aw_qload_n 1 dX7_told_32 rfl ?_
  refine th_getI 5 4 inX7 rfl hk_1 rfl ⟨by decide, by decide, rfl⟩ (wl3 (i := 68) rfl rfl) dX7_told_33 ?_
  refine aw_bipush (-2 : Int32) dX7_told_36 (by decide) ?_
  refine aw_isub dX7_told_38 ?_
  refine aw_imul dX7_told_39 ?_
  refine aw_iadd dX7_told_40 ?_
  refine aw_iload_n 0 dX7_told_41 rfl ?_
  refine aw_if_eq 49 dX7_told_42 (by decide) (fun c2 => ?_) (fun c2 => ?_)
  · rw [if_pos c2] at hf
    refine aw_iconst (0 : Int32) dX7_told_49 (by decide) ?_
    refine aw_lv [] rfl ?_
    exact wkX7_told_50 hl _ _ _ _ hf
  · rw [if_neg c2] at hf
    refine aw_iconst (1 : Int32) dX7_told_45 (by decide) ?_
    refine aw_goto 50 dX7_told_46 (by decide) ?_
    refine aw_lv [] rfl ?_
    exact wkX7_told_50 hl _ _ _ _ hf
def fX7_told (h : TH) (t : Nat) : Option (Int32) :=
  (if t_kd h t = 6 then (fX7_hasMark h t (1 : Int32)).bind fun q2 => (if q2 = false then fX7_told_21 h t (0 : Int32) else (fX7_hasMark h t (2 : Int32)).bind fun q4 => (if q4 = false then fX7_told_21 h t (0 : Int32) else fX7_told_21 h t (1 : Int32))) else none)
set_option maxHeartbeats 4000000 in
set_option maxRecDepth 100000 in
theorem ctX7_told {l : Launch} {g : xG} (hl : l.stackTraces = false) {r : Int32} (h : TH) (t : Nat) (hf : fX7_told h t = some r) : CT yX7_told MX7_told rmX7_told l g [va_rf (some t)] (thE g h) (.inl (some (.int r))) (thE g h) := by
  rw [fX7_told] at hf
  refine CT.of (lv0 := [(0, va_rf (some t))]) (by decide +kernel) rfl rfl (by simp [lg_sl, cat_q, cat_i, cat_l, cat_r]) (by simp [lv_args, cat_q, cat_i, cat_l, cat_r]) hl ?_
  refine aw_qload_n 0 dX7_told_0 rfl ?_
  refine aw_iconst (1 : Int32) dX7_told_1 (by decide) ?_
  obtain ⟨hk_1, hf⟩ := xifn hf
  obtain ⟨q2, hq2, hf⟩ := xbind hf
  refine aw_callV 5 (some t) [.int (1 : Int32)] 1 rfl (thC_ob (h := h) hk_1 (by decide)) rfl rfl (ctX7_hasMark hl _ _ _ hq2) ⟨wl4 (i := 30) rfl rfl, ciX7_hasMark⟩ (wl4 (i := 32) rfl rfl) (wl0 (i := 18) rfl rfl) dX7_told_2 rfl rfl (Nat.le_of_ble_eq_true rfl) ⟨Nat.le_of_ble_eq_true rfl, Nat.le_of_ble_eq_true rfl⟩ ⟨Nat.le_of_ble_eq_true rfl, Nat.le_of_ble_eq_true rfl⟩ ?_
  refine aw_ifb_eq 20 dX7_told_5 (by decide) (fun c3 => ?_) (fun c3 => ?_)
  · rw [if_pos c3] at hf
    refine aw_iconst (0 : Int32) dX7_told_20 (by decide) ?_
    refine aw_lv [0] rfl ?_
    exact wkX7_told_21 hl _ _ _ hf
  · rw [if_neg c3] at hf
    refine aw_qload_n 0 dX7_told_8 rfl ?_
    refine aw_iconst (2 : Int32) dX7_told_9 (by decide) ?_
    obtain ⟨q4, hq4, hf⟩ := xbind hf
    refine aw_callV 5 (some t) [.int (2 : Int32)] 1 rfl (thC_ob (h := h) hk_1 (by decide)) rfl rfl (ctX7_hasMark hl _ _ _ hq4) ⟨wl4 (i := 30) rfl rfl, ciX7_hasMark⟩ (wl4 (i := 32) rfl rfl) (wl0 (i := 18) rfl rfl) dX7_told_10 rfl rfl (Nat.le_of_ble_eq_true rfl) ⟨Nat.le_of_ble_eq_true rfl, Nat.le_of_ble_eq_true rfl⟩ ⟨Nat.le_of_ble_eq_true rfl, Nat.le_of_ble_eq_true rfl⟩ ?_
    refine aw_ifb_eq 20 dX7_told_13 (by decide) (fun c5 => ?_) (fun c5 => ?_)
    · rw [if_pos c5] at hf
      refine aw_iconst (0 : Int32) dX7_told_20 (by decide) ?_
      refine aw_lv [0] rfl ?_
      exact wkX7_told_21 hl _ _ _ hf
    · rw [if_neg c5] at hf
      refine aw_iconst (1 : Int32) dX7_told_16 (by decide) ?_
      refine aw_goto 21 dX7_told_17 (by decide) ?_
      refine aw_lv [0] rfl ?_
      exact wkX7_told_21 hl _ _ _ hf

abbrev MX6_graft : xM := (RX6, cX6_graft, 7, (some .int), "graft")
abbrev rmX6_graft : Room := { frames := 4, cells := 122, slots := 732, locals := 94 }
theorem ciX6_graft : Cond.code yX6_graft cX6_graft 7 (some .int) ∈ wt ∧ Cond.initialized yX6_graft.cls ∈ wt ∧ (yX6_graft.cls ≠ "java/lang/invoke/MethodHandle" ∧ yX6_graft.cls ≠ "java/lang/invoke/VarHandle" ∧ (parseMethodDescriptor yX6_graft.desc).map (fun d => d.parameters.length) = some 2) := ⟨wl3 (i := 142) rfl rfl, wl1 (i := 3) rfl rfl, by decide +kernel, by decide +kernel, by decide +kernel⟩
def fX6_graft_102 (k26 : TH → Nat → Option Nat → Option Nat → Int32 → Int32 → Option (Int32 × TH)) (h : TH) (t : Nat) (a1 : Option Nat) (a2 : Option Nat) (a3 : Int32) (a4 : Int32) : Option (Int32 × TH) :=
  k26 h t a1 a2 a3 (a4 + (1 : Int32))
set_option maxHeartbeats 4000000 in
set_option maxRecDepth 100000 in
theorem wkX6_graft_102 {kc ks : Nat} {l : Launch} {g : xG} {x0 : xV} (hl : l.stackTraces = false) {r : Int32 × TH} (k26 : TH → Nat → Option Nat → Option Nat → Int32 → Int32 → Option (Int32 × TH)) (hk26 : ∀ (h : TH) (t : Nat) (a1 : Option Nat) (a2 : Option Nat) (a3 : Int32) (a4 : Int32), k26 h t a1 a2 a3 a4 = some r → AW MX6_graft rmX6_graft l g x0 (.inl (some (.int r.1))) (thE g r.2) kc ks (thE g h) 26 [(0, va_rf (some t)), (1, va_rf a1), (2, va_rf a2), (3, .int a3), (4, .int a4)] []) (h : TH) (t : Nat) (a1 : Option Nat) (a2 : Option Nat) (a3 : Int32) (a4 : Int32) (hf : fX6_graft_102 k26 h t a1 a2 a3 a4 = some r) : AW MX6_graft rmX6_graft l g x0 (.inl (some (.int r.1))) (thE g r.2) kc ks (thE g h) 102 [(0, va_rf (some t)), (1, va_rf a1), (2, va_rf a2), (3, .int a3), (4, .int a4)] [] := by
  rw [fX6_graft_102] at hf
  refine aw_iinc [(4, .int (a4 + (1 : Int32))), (0, va_rf (some t)), (1, va_rf a1), (2, va_rf a2), (3, .int a3)] 4 dX6_graft_102 rfl rfl (by decide) rfl ?_
  refine aw_goto 26 dX6_graft_105 (by decide) ?_
  refine aw_lv [1, 2, 3, 4, 0] rfl ?_
  exact hk26 _ _ _ _ _ _ hf
def fX6_graft_26 : Nat → TH → Nat → Option Nat → Option Nat → Int32 → Int32 → Option (Int32 × TH)
  | 0, _, _, _, _, _, _ => none
  | n + 1, h, t, a1, a2, a3, a4 =>
    (if t_kd h t = 5 then (t_R h t 0).bind fun p2 => (if t_kd h p2 = 13 then (if (nI (t_ln h p2)) ≤ a4 then some (a3, h) else (t_R h t 1).bind fun p5 => (if t_kd h p5 = 13 then (if (nI (t_ln h p5)) ≤ a4 then some (a3, h) else (if xin a4 (t_ln h p2) = true then (if (t_R h p2 a4.toNatClampNeg) = none then fX6_graft_102 (fX6_graft_26 n) h t a1 a2 a3 a4 else (t_R h p2 a4.toNatClampNeg).bind fun p10 => (if t_kd h p10 = 6 then a1.bind fun p12 => (if t_kd h p12 = 6 then (if (t_I h p10 1) = (t_I h p12 0) then (fX6_twinOrNew h t (t_R h p2 a4.toNatClampNeg) a2).bind fun q15 => (if t_kd q15.2 t = 5 then (t_R q15.2 t 1).bind fun p17 => (if t_kd q15.2 p17 = 13 then (if xin a4 (t_ln q15.2 p17) = true then (if (q15.1).all (fun b => t_kd q15.2 b == 6) = true then (if q15.1 = none then fX6_graft_102 (fX6_graft_26 n) (s_R q15.2 p17 a4.toNatClampNeg q15.1) t a1 a2 a3 a4 else q15.1.bind fun p22 => (if t_kd (s_R q15.2 p17 a4.toNatClampNeg q15.1) p22 = 6 then (fX7_takeMarks (s_R q15.2 p17 a4.toNatClampNeg q15.1) p22 (t_R h p2 a4.toNatClampNeg)).bind fun q24 => fX6_graft_102 (fX6_graft_26 n) q24 t a1 a2 a3 a4 else none)) else none) else none) else none) else none) else fX6_graft_102 (fX6_graft_26 n) h t a1 a2 a3 a4) else none) else none)) else none)) else none)) else none) else none)
set_option maxHeartbeats 4000000 in
set_option maxRecDepth 100000 in
theorem wkX6_graft_26 {l : Launch} {g : xG} {x0 : xV} (hl : l.stackTraces = false) {r : Int32 × TH} : ∀ (n : Nat), n ≤ 61 → ∀ (h : TH) (t : Nat) (a1 : Option Nat) (a2 : Option Nat) (a3 : Int32) (a4 : Int32), fX6_graft_26 n h t a1 a2 a3 a4 = some r → AW MX6_graft rmX6_graft l g x0 (.inl (some (.int r.1))) (thE g r.2) (2 * (61 - n)) (12 * (61 - n)) (thE g h) 26 [(0, va_rf (some t)), (1, va_rf a1), (2, va_rf a2), (3, .int a3), (4, .int a4)] [] := by
  intro n
  induction n with
  | zero => intro _ h t a1 a2 a3 a4 hf; exact absurd hf (by simp [fX6_graft_26])
  | succ n hk26 =>
    intro hn h t a1 a2 a3 a4 hf
    rw [fX6_graft_26] at hf
    refine aw_iload 4 dX6_graft_26 rfl ?_
    refine aw_qload_n 0 dX6_graft_28 rfl ?_
    obtain ⟨hk_1, hf⟩ := xifn hf
    refine th_getR 4 0 inX6 rfl hk_1 rfl ⟨by decide, by decide, rfl⟩ (wl1 (i := 63) rfl rfl) dX6_graft_29 ?_
    obtain ⟨p2, hp2, hf⟩ := xbind hf
    obtain ⟨hk_3, hf⟩ := xifn hf
    refine th_alenT hp2 hk_3 dX6_graft_32 ?_
    refine aw_icmp_ge 108 dX6_graft_33 (by decide) (fun c4 => ?_) (fun c4 => ?_)
    · rw [if_pos c4] at hf
      refine aw_iload_n 3 dX6_graft_108 rfl ?_
      cases hf
      exact aw_iret dX6_graft_109 rfl rfl rfl ⟨(by first | omega | (simp only [rmX6_graft, rmX6_twinOrNew, rmX7_takeMarks]; omega)), (by first | omega | (simp only [rmX6_graft, rmX6_twinOrNew, rmX7_takeMarks]; omega))⟩
    · rw [if_neg c4] at hf
      refine aw_iload 4 dX6_graft_36 rfl ?_
      refine aw_qload_n 0 dX6_graft_38 rfl ?_
      refine th_getR 4 1 inX6 rfl hk_1 rfl ⟨by decide, by decide, rfl⟩ (wl1 (i := 64) rfl rfl) dX6_graft_39 ?_
      obtain ⟨p5, hp5, hf⟩ := xbind hf
      obtain ⟨hk_6, hf⟩ := xifn hf
      refine th_alenT hp5 hk_6 dX6_graft_42 ?_
      refine aw_icmp_ge 108 dX6_graft_43 (by decide) (fun c7 => ?_) (fun c7 => ?_)
      · rw [if_pos c7] at hf
        refine aw_iload_n 3 dX6_graft_108 rfl ?_
        cases hf
        exact aw_iret dX6_graft_109 rfl rfl rfl ⟨(by first | omega | (simp only [rmX6_graft, rmX6_twinOrNew, rmX7_takeMarks]; omega)), (by first | omega | (simp only [rmX6_graft, rmX6_twinOrNew, rmX7_takeMarks]; omega))⟩
      · rw [if_neg c7] at hf
        refine aw_qload_n 0 dX6_graft_46 rfl ?_
        refine th_getR 4 0 inX6 rfl hk_1 rfl ⟨by decide, by decide, rfl⟩ (wl1 (i := 63) rfl rfl) dX6_graft_47 ?_
        refine aw_iload 4 dX6_graft_50 rfl ?_
        obtain ⟨hi8, hf⟩ := xifn hf
        refine th_aaldT hp2 hk_3 (xin_v hi8) dX6_graft_52 ?_
        refine aw_qstore [(5, va_rf (t_R h p2 a4.toNatClampNeg)), (0, va_rf (some t)), (1, va_rf a1), (2, va_rf a2), (3, .int a3), (4, .int a4)] dX6_graft_53 (by decide) rfl ?_
        refine aw_qload 0 dX6_graft_55 rfl ?_
        refine aw_ifnull 102 dX6_graft_57 (by decide) (fun c9 => ?_) (fun c9 => ?_)
        · rw [if_pos c9] at hf
          refine aw_lv [1, 2, 3, 4, 5] rfl ?_
          refine aw_widen (2 * (61 - n)) (12 * (61 - n)) (by first | omega | (simp only [rmX6_graft, rmX6_twinOrNew, rmX7_takeMarks]; omega)) (by first | omega | (simp only [rmX6_graft, rmX6_twinOrNew, rmX7_takeMarks]; omega)) ?_
          exact wkX6_graft_102 hl _ (hk26 (by omega)) _ _ _ _ _ _ hf
        · rw [if_neg c9] at hf
          refine aw_qload 0 dX6_graft_60 rfl ?_
          obtain ⟨p10, hp10, hf⟩ := xbind hf
          obtain ⟨hk_11, hf⟩ := xifn hf
          refine th_getIN "AtariGarden" 5 1 inX7 hp10 hk_11 rfl ⟨by decide, by decide, rfl⟩ (wm3 (i := 63) rfl) dX6_graft_62 ?_
          refine aw_qload_n 2 dX6_graft_65 rfl ?_
          obtain ⟨p12, hp12, hf⟩ := xbind hf
          obtain ⟨hk_13, hf⟩ := xifn hf
          refine th_getIN "AtariGarden" 5 0 inX7 hp12 hk_13 rfl ⟨by decide, by decide, rfl⟩ (wm3 (i := 61) rfl) dX6_graft_66 ?_
          refine aw_icmp_ne 102 dX6_graft_69 (by decide) (fun c14 => ?_) (fun c14 => ?_)
          · rw [if_neg c14] at hf
            refine aw_lv [1, 2, 3, 4, 5] rfl ?_
            refine aw_widen (2 * (61 - n)) (12 * (61 - n)) (by first | omega | (simp only [rmX6_graft, rmX6_twinOrNew, rmX7_takeMarks]; omega)) (by first | omega | (simp only [rmX6_graft, rmX6_twinOrNew, rmX7_takeMarks]; omega)) ?_
            exact wkX6_graft_102 hl _ (hk26 (by omega)) _ _ _ _ _ _ hf
          · rw [if_pos c14] at hf
            refine aw_qload_n 1 dX6_graft_72 rfl ?_
            refine aw_qload 0 dX6_graft_73 rfl ?_
            refine aw_qload_n 3 dX6_graft_75 rfl ?_
            obtain ⟨q15, hq15, hf⟩ := xbind hf
            refine aw_callV 4 (some t) [va_rf (t_R h p2 a4.toNatClampNeg), va_rf a2] 2 rfl (thC_ob (h := h) hk_1 (by decide)) rfl rfl (ctX6_twinOrNew hl _ _ _ _ hq15) ⟨wl3 (i := 155) rfl rfl, ciX6_twinOrNew⟩ (wl3 (i := 157) rfl rfl) (wl0 (i := 17) rfl rfl) dX6_graft_76 rfl rfl (Nat.le_of_ble_eq_true rfl) ⟨Nat.le_of_ble_eq_true rfl, Nat.le_of_ble_eq_true rfl⟩ ⟨(by first | omega | (simp only [rmX6_graft, rmX6_twinOrNew, rmX7_takeMarks]; omega)), (by first | omega | (simp only [rmX6_graft, rmX6_twinOrNew, rmX7_takeMarks]; omega))⟩ ?_
            refine aw_qstore [(6, va_rf q15.1), (5, va_rf (t_R h p2 a4.toNatClampNeg)), (0, va_rf (some t)), (1, va_rf a1), (2, va_rf a2), (3, .int a3), (4, .int a4)] dX6_graft_79 (by decide) (by simp [cat_q, cat_i, cat_l, cat_r]) ?_
            refine aw_qload_n 2 dX6_graft_81 rfl ?_
            obtain ⟨hk_16, hf⟩ := xifn hf
            refine th_getR 4 1 inX6 rfl hk_16 rfl ⟨by decide, by decide, rfl⟩ (wl1 (i := 64) rfl rfl) dX6_graft_82 ?_
            refine aw_iload 6 dX6_graft_85 rfl ?_
            refine aw_qload 0 dX6_graft_87 rfl ?_
            obtain ⟨p17, hp17, hf⟩ := xbind hf
            obtain ⟨hk_18, hf⟩ := xifn hf
            obtain ⟨hi19, hf⟩ := xifn hf
            obtain ⟨hv20, hf⟩ := xifn hf
            refine th_aastT hp17 hk_18 (xin_v hi19) (xall hv20) dX6_graft_89 ?_
            refine aw_qload 0 dX6_graft_90 rfl ?_
            refine aw_ifnull 102 dX6_graft_92 (by decide) (fun c21 => ?_) (fun c21 => ?_)
            · rw [if_pos c21] at hf
              refine aw_lv [2, 3, 4, 5, 6] rfl ?_
              refine aw_widen (2 * (61 - n)) (12 * (61 - n)) (by first | omega | (simp only [rmX6_graft, rmX6_twinOrNew, rmX7_takeMarks]; omega)) (by first | omega | (simp only [rmX6_graft, rmX6_twinOrNew, rmX7_takeMarks]; omega)) ?_
              exact wkX6_graft_102 hl _ (hk26 (by omega)) _ _ _ _ _ _ hf
            · rw [if_neg c21] at hf
              refine aw_qload 0 dX6_graft_95 rfl ?_
              refine aw_qload 1 dX6_graft_97 rfl ?_
              obtain ⟨p22, hp22, hf⟩ := xbind hf
              obtain ⟨hk_23, hf⟩ := xifn hf
              obtain ⟨q24, hq24, hf⟩ := xbind hf
              refine aw_callV 5 q15.1 [va_rf (t_R h p2 a4.toNatClampNeg)] 1 hp22 (thC_ob (h := (s_R q15.2 p17 a4.toNatClampNeg q15.1)) hk_23 (by decide)) rfl rfl (ctX7_takeMarks hl _ _ _ hq24) ⟨wl3 (i := 159) rfl rfl, ciX7_takeMarks⟩ (wl3 (i := 160) rfl rfl) (wl3 (i := 161) rfl rfl) dX6_graft_99 rfl rfl (Nat.le_of_ble_eq_true rfl) ⟨Nat.le_of_ble_eq_true rfl, Nat.le_of_ble_eq_true rfl⟩ ⟨(by first | omega | (simp only [rmX6_graft, rmX6_twinOrNew, rmX7_takeMarks]; omega)), (by first | omega | (simp only [rmX6_graft, rmX6_twinOrNew, rmX7_takeMarks]; omega))⟩ ?_
              refine aw_lv [2, 3, 4, 5, 6] rfl ?_
              refine aw_widen (2 * (61 - n)) (12 * (61 - n)) (by first | omega | (simp only [rmX6_graft, rmX6_twinOrNew, rmX7_takeMarks]; omega)) (by first | omega | (simp only [rmX6_graft, rmX6_twinOrNew, rmX7_takeMarks]; omega)) ?_
              exact wkX6_graft_102 hl _ (hk26 (by omega)) _ _ _ _ _ _ hf
def fX6_graft (h : TH) (t : Nat) (a1 : Option Nat) (a2 : Option Nat) : Option (Int32 × TH) :=
  (if t_kd h t = 5 then (fX6_countMissing h t a1 a2).bind fun q2 => (if t_kd q2.2 t = 5 then (t_R q2.2 t 0).bind fun p4 => (if t_kd q2.2 p4 = 13 then (if ((t_I q2.2 t 2) + q2.1) ≤ (nI (t_ln q2.2 p4)) then fX6_graft_26 61 q2.2 t a1 a2 q2.1 (0 : Int32) else some ((-1 : Int32), q2.2)) else none) else none) else none)
set_option maxHeartbeats 4000000 in
set_option maxRecDepth 100000 in
theorem ctX6_graft {l : Launch} {g : xG} (hl : l.stackTraces = false) {r : Int32 × TH} (h : TH) (t : Nat) (a1 : Option Nat) (a2 : Option Nat) (hf : fX6_graft h t a1 a2 = some r) : CT yX6_graft MX6_graft rmX6_graft l g [va_rf (some t), va_rf a1, va_rf a2] (thE g h) (.inl (some (.int r.1))) (thE g r.2) := by
  rw [fX6_graft] at hf
  refine CT.of (lv0 := [(0, va_rf (some t)), (1, va_rf a1), (2, va_rf a2)]) (by decide +kernel) rfl rfl (by simp [lg_sl, cat_q, cat_i, cat_l, cat_r]) (by simp [lv_args, cat_q, cat_i, cat_l, cat_r]) hl ?_
  refine aw_qload_n 0 dX6_graft_0 rfl ?_
  refine aw_qload_n 1 dX6_graft_1 rfl ?_
  refine aw_qload_n 2 dX6_graft_2 rfl ?_
  obtain ⟨hk_1, hf⟩ := xifn hf
  obtain ⟨q2, hq2, hf⟩ := xbind hf
  refine aw_callV 4 (some t) [va_rf a1, va_rf a2] 2 rfl (thC_ob (h := h) hk_1 (by decide)) rfl rfl (ctX6_countMissing hl _ _ _ _ hq2) ⟨wl3 (i := 143) rfl rfl, ciX6_countMissing⟩ (wl3 (i := 145) rfl rfl) (wl0 (i := 14) rfl rfl) dX6_graft_3 rfl rfl (Nat.le_of_ble_eq_true rfl) ⟨Nat.le_of_ble_eq_true rfl, Nat.le_of_ble_eq_true rfl⟩ ⟨Nat.le_of_ble_eq_true rfl, Nat.le_of_ble_eq_true rfl⟩ ?_
  refine aw_istore_n (i := 3) [(3, .int q2.1), (0, va_rf (some t)), (1, va_rf a1), (2, va_rf a2)] dX6_graft_6 rfl (by decide) (by simp [cat_q, cat_i, cat_l, cat_r]) ?_
  refine aw_qload_n 1 dX6_graft_7 rfl ?_
  obtain ⟨hk_3, hf⟩ := xifn hf
  refine th_getI 4 2 inX6 rfl hk_3 rfl ⟨by decide, by decide, rfl⟩ (wl1 (i := 65) rfl rfl) dX6_graft_8 ?_
  refine aw_iload_n 0 dX6_graft_11 rfl ?_
  refine aw_iadd dX6_graft_12 ?_
  refine aw_qload_n 1 dX6_graft_13 rfl ?_
  refine th_getR 4 0 inX6 rfl hk_3 rfl ⟨by decide, by decide, rfl⟩ (wl1 (i := 63) rfl rfl) dX6_graft_14 ?_
  obtain ⟨p4, hp4, hf⟩ := xbind hf
  obtain ⟨hk_5, hf⟩ := xifn hf
  refine th_alenT hp4 hk_5 dX6_graft_17 ?_
  refine aw_icmp_le 23 dX6_graft_18 (by decide) (fun c6 => ?_) (fun c6 => ?_)
  · rw [if_pos c6] at hf
    refine aw_iconst (0 : Int32) dX6_graft_23 (by decide) ?_
    refine aw_istore [(4, .int (0 : Int32)), (3, .int q2.1), (0, va_rf (some t)), (1, va_rf a1), (2, va_rf a2)] dX6_graft_24 (by decide) rfl ?_
    refine aw_lv [2, 3, 4, 1, 0] rfl ?_
    exact wkX6_graft_26 hl 61 (by omega) _ _ _ _ _ _ hf
  · rw [if_neg c6] at hf
    refine aw_iconst (-1 : Int32) dX6_graft_21 (by decide) ?_
    cases hf
    exact aw_iret dX6_graft_22 rfl rfl rfl ⟨Nat.le_of_ble_eq_true rfl, Nat.le_of_ble_eq_true rfl⟩
