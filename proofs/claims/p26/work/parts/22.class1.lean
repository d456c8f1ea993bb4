abbrev MX3_annul : xM := (RX3, cX3_annul, 1, none, "annul")
abbrev rmX3_annul : Room := { frames := 0, cells := 0, slots := 0, locals := 0 }
theorem ciX3_annul : Cond.code yX3_annul cX3_annul 1 none ∈ wt ∧ Cond.initialized yX3_annul.cls ∈ wt ∧ (yX3_annul.cls ≠ "java/lang/invoke/MethodHandle" ∧ yX3_annul.cls ≠ "java/lang/invoke/VarHandle" ∧ (parseMethodDescriptor yX3_annul.desc).map (fun d => d.parameters.length) = some 0) := ⟨wl1 (i := 128) rfl rfl, wl1 (i := 14) rfl rfl, by decide +kernel, by decide +kernel, by decide +kernel⟩
def fX3_annul (h : TH) (t : Nat) : Option (TH) :=
  (if t_kd h t = 3 then (if (t_I (s_I h t 9 (1 : Int32)) t 8) = 0 then some (s_I (s_I h t 9 (1 : Int32)) t 8 (2 : Int32)) else some (s_I h t 9 (1 : Int32))) else none)
set_option maxHeartbeats 4000000 in
set_option maxRecDepth 100000 in
theorem ctX3_annul {l : Launch} {g : xG} (hl : l.stackTraces = false) {r : TH} (h : TH) (t : Nat) (hf : fX3_annul h t = some r) : CT yX3_annul MX3_annul rmX3_annul l g [va_rf (some t)] (thE g h) (.inl none) (thE g r) := by
  rw [fX3_annul] at hf
  refine CT.of (lv0 := [(0, va_rf (some t))]) (by decide +kernel) rfl rfl (by simp [lg_sl, cat_q, cat_i, cat_l, cat_r]) (by simp [lv_args, cat_q, cat_i, cat_l, cat_r]) hl ?_
  refine aw_qload_n 0 dX3_annul_0 rfl ?_
  refine aw_iconst (1 : Int32) dX3_annul_1 (by decide) ?_
  obtain ⟨hk_1, hf⟩ := xifn hf
  refine th_putI 2 9 xtX3 rfl hk_1 rfl ⟨by decide, by decide, rfl⟩ rfl rfl rfl (wl2 (i := 143) rfl rfl) rfl dX3_annul_2 ?_
  refine aw_qload_n 0 dX3_annul_5 rfl ?_
  refine th_getI 2 8 inX3 rfl hk_1 rfl ⟨by decide, by decide, rfl⟩ (wl2 (i := 141) rfl rfl) dX3_annul_6 ?_
  refine aw_if_ne 17 dX3_annul_9 (by decide) (fun c2 => ?_) (fun c2 => ?_)
  · rw [if_neg c2] at hf
    cases hf
    exact aw_vret dX3_annul_17 rfl rfl rfl ⟨Nat.le_of_ble_eq_true rfl, Nat.le_of_ble_eq_true rfl⟩
  · rw [if_pos c2] at hf
    refine aw_qload_n 0 dX3_annul_12 rfl ?_
    refine aw_iconst (2 : Int32) dX3_annul_13 (by decide) ?_
    refine th_putI 2 8 xtX3 rfl hk_1 rfl ⟨by decide, by decide, rfl⟩ rfl rfl rfl (wl2 (i := 141) rfl rfl) rfl dX3_annul_14 ?_
    cases hf
    exact aw_vret dX3_annul_17 rfl rfl rfl ⟨Nat.le_of_ble_eq_true rfl, Nat.le_of_ble_eq_true rfl⟩
abbrev MX2_annulWhileOff : xM := (RX2, cX2_annulWhileOff, 3, (some .int), "annulWhileOff")
abbrev rmX2_annulWhileOff : Room := { frames := 6, cells := 0, slots := 0, locals := 139 }
theorem ciX2_annulWhileOff : Cond.code yX2_annulWhileOff cX2_annulWhileOff 3 (some .int) ∈ wt ∧ Cond.initialized yX2_annulWhileOff.cls ∈ wt ∧ (yX2_annulWhileOff.cls ≠ "java/lang/invoke/MethodHandle" ∧ yX2_annulWhileOff.cls ≠ "java/lang/invoke/VarHandle" ∧ (parseMethodDescriptor yX2_annulWhileOff.desc).map (fun d => d.parameters.length) = some 0) := ⟨wl1 (i := 87) rfl rfl, wl1 (i := 2) rfl rfl, by decide +kernel, by decide +kernel, by decide +kernel⟩
def fX2_annulWhileOff_2 : Nat → TH → Nat → Int32 → Option (Int32 × TH)
  | 0, _, _, _ => none
  | n + 1, h, t, a1 =>
    (if t_kd h t = 2 then (t_R h t 2).bind fun p2 => (if t_kd h p2 = 12 then (if (nI (t_ln h p2)) ≤ a1 then some ((nI (t_ln h p2)), h) else (fX2_lowestOff h t).bind fun q5 => (if q5 = none then some (a1, h) else q5.bind fun p7 => (if t_kd h p7 = 3 then (fX3_annul h p7).bind fun q9 => fX2_annulWhileOff_2 n q9 t (a1 + (1 : Int32)) else none))) else none) else none)
set_option maxHeartbeats 4000000 in
set_option maxRecDepth 100000 in
theorem wkX2_annulWhileOff_2 {l : Launch} {g : xG} {x0 : xV} (hl : l.stackTraces = false) {r : Int32 × TH} : ∀ (n : Nat) (h : TH) (t : Nat) (a1 : Int32), fX2_annulWhileOff_2 n h t a1 = some r → AW MX2_annulWhileOff rmX2_annulWhileOff l g x0 (.inl (some (.int r.1))) (thE g r.2) 0 0 (thE g h) 2 [(0, va_rf (some t)), (1, .int a1)] [] := by
  intro n
  induction n with
  | zero => intro h t a1 hf; exact absurd hf (by simp [fX2_annulWhileOff_2])
  | succ n hk2 =>
    intro h t a1 hf
    rw [fX2_annulWhileOff_2] at hf
    refine aw_iload_n 1 dX2_annulWhileOff_2 rfl ?_
    refine aw_qload_n 0 dX2_annulWhileOff_3 rfl ?_
    obtain ⟨hk_1, hf⟩ := xifn hf
    refine th_getR 1 2 inX2 rfl hk_1 rfl ⟨by decide, by decide, rfl⟩ (wl1 (i := 36) rfl rfl) dX2_annulWhileOff_4 ?_
    obtain ⟨p2, hp2, hf⟩ := xbind hf
    obtain ⟨hk_3, hf⟩ := xifn hf
    refine th_alenM hp2 hk_3 dX2_annulWhileOff_7 ?_
    refine aw_icmp_ge 32 dX2_annulWhileOff_8 (by decide) (fun c4 => ?_) (fun c4 => ?_)
    · rw [if_pos c4] at hf
      refine aw_qload_n 0 dX2_annulWhileOff_32 rfl ?_
      refine th_getR 1 2 inX2 rfl hk_1 rfl ⟨by decide, by decide, rfl⟩ (wl1 (i := 36) rfl rfl) dX2_annulWhileOff_33 ?_
      refine th_alenM hp2 hk_3 dX2_annulWhileOff_36 ?_
      cases hf
      exact aw_iret dX2_annulWhileOff_37 rfl rfl rfl ⟨Nat.le_of_ble_eq_true rfl, Nat.le_of_ble_eq_true rfl⟩
    · rw [if_neg c4] at hf
      refine aw_qload_n 0 dX2_annulWhileOff_11 rfl ?_
      obtain ⟨q5, hq5, hf⟩ := xbind hf
      refine aw_callV 1 (some t) [] 0 rfl (thC_ob (h := h) hk_1 (by decide)) rfl rfl (ctX2_lowestOff hl _ _ hq5) ⟨wl1 (i := 88) rfl rfl, ciX2_lowestOff⟩ (wl1 (i := 90) rfl rfl) (wl0 (i := 0) rfl rfl) dX2_annulWhileOff_12 rfl rfl (Nat.le_of_ble_eq_true rfl) ⟨Nat.le_of_ble_eq_true rfl, Nat.le_of_ble_eq_true rfl⟩ ⟨Nat.le_of_ble_eq_true rfl, Nat.le_of_ble_eq_true rfl⟩ ?_
      refine aw_qstore_n [(2, va_rf q5), (0, va_rf (some t)), (1, .int a1)] dX2_annulWhileOff_15 rfl (by decide) rfl ?_
      refine aw_qload_n 0 dX2_annulWhileOff_16 rfl ?_
      refine aw_ifnonnull 22 dX2_annulWhileOff_17 (by decide) (fun c6 => ?_) (fun c6 => ?_)
      · rw [if_neg c6] at hf
        refine aw_qload_n 0 dX2_annulWhileOff_22 rfl ?_
        obtain ⟨p7, hp7, hf⟩ := xbind hf
        obtain ⟨hk_8, hf⟩ := xifn hf
        obtain ⟨q9, hq9, hf⟩ := xbind hf
        refine aw_callV 2 q5 [] 0 hp7 (thC_ob (h := h) hk_8 (by decide)) rfl rfl (ctX3_annul hl _ _ hq9) ⟨wl1 (i := 125) rfl rfl, ciX3_annul⟩ (wl1 (i := 126) rfl rfl) (wl1 (i := 127) rfl rfl) dX2_annulWhileOff_23 rfl rfl (Nat.le_of_ble_eq_true rfl) ⟨Nat.le_of_ble_eq_true rfl, Nat.le_of_ble_eq_true rfl⟩ ⟨Nat.le_of_ble_eq_true rfl, Nat.le_of_ble_eq_true rfl⟩ ?_
        refine aw_iinc [(1, .int (a1 + (1 : Int32))), (2, va_rf q5), (0, va_rf (some t))] 2 dX2_annulWhileOff_26 rfl rfl (by decide) rfl ?_
        refine aw_goto 2 dX2_annulWhileOff_29 (by decide) ?_
        refine aw_lv [2, 0] rfl ?_
        exact hk2 _ _ _ hf
      · rw [if_pos c6] at hf
        refine aw_iload_n 2 dX2_annulWhileOff_20 rfl ?_
        cases hf
        exact aw_iret dX2_annulWhileOff_21 rfl rfl rfl ⟨Nat.le_of_ble_eq_true rfl, Nat.le_of_ble_eq_true rfl⟩
def fX2_annulWhileOff (h : TH) (t : Nat) : Option (Int32 × TH) :=
  fX2_annulWhileOff_2 FU h t (0 : Int32)
set_option maxHeartbeats 4000000 in
set_option maxRecDepth 100000 in
theorem ctX2_annulWhileOff {l : Launch} {g : xG} (hl : l.stackTraces = false) {r : Int32 × TH} (h : TH) (t : Nat) (hf : fX2_annulWhileOff h t = some r) : CT yX2_annulWhileOff MX2_annulWhileOff rmX2_annulWhileOff l g [va_rf (some t)] (thE g h) (.inl (some (.int r.1))) (thE g r.2) := by
  rw [fX2_annulWhileOff] at hf
  refine CT.of (lv0 := [(0, va_rf (some t))]) (by decide +kernel) rfl rfl (by simp [lg_sl, cat_q, cat_i, cat_l, cat_r]) (by simp [lv_args, cat_q, cat_i, cat_l, cat_r]) hl ?_
  refine aw_iconst (0 : Int32) dX2_annulWhileOff_0 (by decide) ?_
  refine aw_istore_n [(1, .int (0 : Int32)), (0, va_rf (some t))] dX2_annulWhileOff_1 rfl (by decide) rfl ?_
  refine aw_lv [1, 0] rfl ?_
  exact wkX2_annulWhileOff_2 hl _ _ _ _ hf
abbrev MX3_goesOn : xM := (RX3, cX3_goesOn, 1, (some .boolean), "goesOn")
abbrev rmX3_goesOn : Room := { frames := 0, cells := 0, slots := 0, locals := 0 }
theorem ciX3_goesOn : Cond.code yX3_goesOn cX3_goesOn 1 (some .boolean) ∈ wt ∧ Cond.initialized yX3_goesOn.cls ∈ wt ∧ (yX3_goesOn.cls ≠ "java/lang/invoke/MethodHandle" ∧ yX3_goesOn.cls ≠ "java/lang/invoke/VarHandle" ∧ (parseMethodDescriptor yX3_goesOn.desc).map (fun d => d.parameters.length) = some 0) := ⟨wl2 (i := 46) rfl rfl, wl1 (i := 14) rfl rfl, by decide +kernel, by decide +kernel, by decide +kernel⟩
def fX3_goesOn (h : TH) (t : Nat) : Option (Bool) :=
  (if t_kd h t = 3 then (if (t_I h t 8) = 0 then some true else some false) else none)
set_option maxHeartbeats 4000000 in
set_option maxRecDepth 100000 in
theorem ctX3_goesOn {l : Launch} {g : xG} (hl : l.stackTraces = false) {r : Bool} (h : TH) (t : Nat) (hf : fX3_goesOn h t = some r) : CT yX3_goesOn MX3_goesOn rmX3_goesOn l g [va_rf (some t)] (thE g h) (.inl (some (.int (bi r)))) (thE g h) := by
  rw [fX3_goesOn] at hf
  refine CT.of (lv0 := [(0, va_rf (some t))]) (by decide +kernel) rfl rfl (by simp [lg_sl, cat_q, cat_i, cat_l, cat_r]) (by simp [lv_args, cat_q, cat_i, cat_l, cat_r]) hl ?_
  refine aw_qload_n 0 dX3_goesOn_0 rfl ?_
  obtain ⟨hk_1, hf⟩ := xifn hf
  refine th_getI 2 8 inX3 rfl hk_1 rfl ⟨by decide, by decide, rfl⟩ (wl2 (i := 141) rfl rfl) dX3_goesOn_1 ?_
  refine aw_if_ne 11 dX3_goesOn_4 (by decide) (fun c2 => ?_) (fun c2 => ?_)
  · rw [if_neg c2] at hf
    refine aw_iconst (0 : Int32) dX3_goesOn_11 (by decide) ?_
    cases hf
    exact aw_zret dX3_goesOn_12 rfl rfl rfl rfl ⟨Nat.le_of_ble_eq_true rfl, Nat.le_of_ble_eq_true rfl⟩
  · rw [if_pos c2] at hf
    refine aw_iconst (1 : Int32) dX3_goesOn_7 (by decide) ?_
    refine aw_goto 12 dX3_goesOn_8 (by decide) ?_
    cases hf
    exact aw_zret dX3_goesOn_12 rfl rfl rfl rfl ⟨Nat.le_of_ble_eq_true rfl, Nat.le_of_ble_eq_true rfl⟩
abbrev MX2_isBusy : xM := (RX2, cX2_isBusy, 4, (some .boolean), "isBusy")
abbrev rmX2_isBusy : Room := { frames := 1, cells := 0, slots := 0, locals := 21 }
theorem ciX2_isBusy : Cond.code yX2_isBusy cX2_isBusy 4 (some .boolean) ∈ wt ∧ Cond.initialized yX2_isBusy.cls ∈ wt ∧ (yX2_isBusy.cls ≠ "java/lang/invoke/MethodHandle" ∧ yX2_isBusy.cls ≠ "java/lang/invoke/VarHandle" ∧ (parseMethodDescriptor yX2_isBusy.desc).map (fun d => d.parameters.length) = some 1) := ⟨wl2 (i := 42) rfl rfl, wl1 (i := 2) rfl rfl, by decide +kernel, by decide +kernel, by decide +kernel⟩
def fX2_isBusy_39 (k2 : TH → Nat → Int32 → Int32 → Option (Bool)) (h : TH) (t : Nat) (a1 : Int32) (a2 : Int32) : Option (Bool) :=
  k2 h t a1 (a2 + (1 : Int32))
set_option maxHeartbeats 4000000 in
set_option maxRecDepth 100000 in
theorem wkX2_isBusy_39 {l : Launch} {g : xG} {x0 : xV} (hl : l.stackTraces = false) {r : Bool} (k2 : TH → Nat → Int32 → Int32 → Option (Bool)) (hk2 : ∀ (h : TH) (t : Nat) (a1 : Int32) (a2 : Int32), k2 h t a1 a2 = some r → AW MX2_isBusy rmX2_isBusy l g x0 (.inl (some (.int (bi r)))) (thE g h) 0 0 (thE g h) 2 [(0, va_rf (some t)), (1, .int a1), (2, .int a2)] []) (h : TH) (t : Nat) (a1 : Int32) (a2 : Int32) (hf : fX2_isBusy_39 k2 h t a1 a2 = some r) : AW MX2_isBusy rmX2_isBusy l g x0 (.inl (some (.int (bi r)))) (thE g h) 0 0 (thE g h) 39 [(0, va_rf (some t)), (1, .int a1), (2, .int a2)] [] := by
  rw [fX2_isBusy_39] at hf
  refine aw_iinc [(2, .int (a2 + (1 : Int32))), (0, va_rf (some t)), (1, .int a1)] 2 dX2_isBusy_39 rfl rfl (by decide) rfl ?_
  refine aw_goto 2 dX2_isBusy_42 (by decide) ?_
  refine aw_lv [1, 2, 0] rfl ?_
  exact hk2 _ _ _ _ hf
def fX2_isBusy_2 : Nat → TH → Nat → Int32 → Int32 → Option (Bool)
  | 0, _, _, _, _ => none
  | n + 1, h, t, a1, a2 =>
    (if t_kd h t = 2 then (t_R h t 2).bind fun p2 => (if t_kd h p2 = 12 then (if (nI (t_ln h p2)) ≤ a2 then some false else (if xin a2 (t_ln h p2) = true then (if (t_R h p2 a2.toNatClampNeg) = none then fX2_isBusy_39 (fX2_isBusy_2 n) h t a1 a2 else (t_R h p2 a2.toNatClampNeg).bind fun p7 => (if t_kd h p7 = 3 then (fX3_goesOn h p7).bind fun q9 => (if q9 = false then fX2_isBusy_39 (fX2_isBusy_2 n) h t a1 a2 else (fX3_isPlayedBy h p7 a1).bind fun q11 => (if q11 = false then fX2_isBusy_39 (fX2_isBusy_2 n) h t a1 a2 else some true)) else none)) else none)) else none) else none)
set_option maxHeartbeats 4000000 in
set_option maxRecDepth 100000 in
theorem wkX2_isBusy_2 {l : Launch} {g : xG} {x0 : xV} (hl : l.stackTraces = false) {r : Bool} : ∀ (n : Nat) (h : TH) (t : Nat) (a1 : Int32) (a2 : Int32), fX2_isBusy_2 n h t a1 a2 = some r → AW MX2_isBusy rmX2_isBusy l g x0 (.inl (some (.int (bi r)))) (thE g h) 0 0 (thE g h) 2 [(0, va_rf (some t)), (1, .int a1), (2, .int a2)] [] := by
  intro n
  induction n with
  | zero => intro h t a1 a2 hf; exact absurd hf (by simp [fX2_isBusy_2])
  | succ n hk2 =>
    intro h t a1 a2 hf
    rw [fX2_isBusy_2] at hf
    refine aw_iload_n 2 dX2_isBusy_2 rfl ?_
    refine aw_qload_n 0 dX2_isBusy_3 rfl ?_
    obtain ⟨hk_1, hf⟩ := xifn hf
    refine th_getR 1 2 inX2 rfl hk_1 rfl ⟨by decide, by decide, rfl⟩ (wl1 (i := 36) rfl rfl) dX2_isBusy_4 ?_
    obtain ⟨p2, hp2, hf⟩ := xbind hf
    obtain ⟨hk_3, hf⟩ := xifn hf
    refine th_alenM hp2 hk_3 dX2_isBusy_7 ?_
    refine aw_icmp_ge 45 dX2_isBusy_8 (by decide) (fun c4 => ?_) (fun c4 => ?_)
    · rw [if_pos c4] at hf
      refine aw_iconst (0 : Int32) dX2_isBusy_45 (by decide) ?_
      cases hf
      exact aw_zret dX2_isBusy_46 rfl rfl rfl rfl ⟨Nat.le_of_ble_eq_true rfl, Nat.le_of_ble_eq_true rfl⟩
    · rw [if_neg c4] at hf
      refine aw_qload_n 0 dX2_isBusy_11 rfl ?_
      refine th_getR 1 2 inX2 rfl hk_1 rfl ⟨by decide, by decide, rfl⟩ (wl1 (i := 36) rfl rfl) dX2_isBusy_12 ?_
      refine aw_iload_n 2 dX2_isBusy_15 rfl ?_
      obtain ⟨hi5, hf⟩ := xifn hf
      refine th_aaldM hp2 hk_3 (xin_v hi5) dX2_isBusy_16 ?_
      refine aw_qstore_n [(3, va_rf (t_R h p2 a2.toNatClampNeg)), (0, va_rf (some t)), (1, .int a1), (2, .int a2)] dX2_isBusy_17 rfl (by decide) rfl ?_
      refine aw_qload_n 0 dX2_isBusy_18 rfl ?_
      refine aw_ifnull 39 dX2_isBusy_19 (by decide) (fun c6 => ?_) (fun c6 => ?_)
      · rw [if_pos c6] at hf
        refine aw_lv [1, 2, 3] rfl ?_
        exact wkX2_isBusy_39 hl _ hk2 _ _ _ _ hf
      · rw [if_neg c6] at hf
        refine aw_qload_n 0 dX2_isBusy_22 rfl ?_
        obtain ⟨p7, hp7, hf⟩ := xbind hf
        obtain ⟨hk_8, hf⟩ := xifn hf
        obtain ⟨q9, hq9, hf⟩ := xbind hf
        refine aw_callV 2 (t_R h p2 a2.toNatClampNeg) [] 0 hp7 (thC_ob (h := h) hk_8 (by decide)) rfl rfl (ctX3_goesOn hl _ _ hq9) ⟨wl2 (i := 43) rfl rfl, ciX3_goesOn⟩ (wl2 (i := 44) rfl rfl) (wl2 (i := 45) rfl rfl) dX2_isBusy_23 rfl rfl (Nat.le_of_ble_eq_true rfl) ⟨Nat.le_of_ble_eq_true rfl, Nat.le_of_ble_eq_true rfl⟩ ⟨Nat.le_of_ble_eq_true rfl, Nat.le_of_ble_eq_true rfl⟩ ?_
        refine aw_ifb_eq 39 dX2_isBusy_26 (by decide) (fun c10 => ?_) (fun c10 => ?_)
        · rw [if_pos c10] at hf
          refine aw_lv [1, 2, 3] rfl ?_
          exact wkX2_isBusy_39 hl _ hk2 _ _ _ _ hf
        · rw [if_neg c10] at hf
          refine aw_qload_n 0 dX2_isBusy_29 rfl ?_
          refine aw_iload_n 2 dX2_isBusy_30 rfl ?_
          obtain ⟨q11, hq11, hf⟩ := xbind hf
          refine aw_callV 2 (t_R h p2 a2.toNatClampNeg) [.int a1] 1 hp7 (thC_ob (h := h) hk_8 (by decide)) rfl rfl (ctX3_isPlayedBy hl _ _ _ hq11) ⟨wl1 (i := 108) rfl rfl, ciX3_isPlayedBy⟩ (wl1 (i := 109) rfl rfl) (wl1 (i := 110) rfl rfl) dX2_isBusy_31 rfl rfl (Nat.le_of_ble_eq_true rfl) ⟨Nat.le_of_ble_eq_true rfl, Nat.le_of_ble_eq_true rfl⟩ ⟨Nat.le_of_ble_eq_true rfl, Nat.le_of_ble_eq_true rfl⟩ ?_
          refine aw_ifb_eq 39 dX2_isBusy_34 (by decide) (fun c12 => ?_) (fun c12 => ?_)
          · rw [if_pos c12] at hf
            refine aw_lv [1, 2, 3] rfl ?_
            exact wkX2_isBusy_39 hl _ hk2 _ _ _ _ hf
          · rw [if_neg c12] at hf
            refine aw_iconst (1 : Int32) dX2_isBusy_37 (by decide) ?_
            cases hf
            exact aw_zret dX2_isBusy_38 rfl rfl rfl rfl ⟨Nat.le_of_ble_eq_true rfl, Nat.le_of_ble_eq_true rfl⟩
def fX2_isBusy (h : TH) (t : Nat) (a1 : Int32) : Option (Bool) :=
  fX2_isBusy_2 FU h t a1 (0 : Int32)
set_option maxHeartbeats 4000000 in
set_option maxRecDepth 100000 in
theorem ctX2_isBusy {l : Launch} {g : xG} (hl : l.stackTraces = false) {r : Bool} (h : TH) (t : Nat) (a1 : Int32) (hf : fX2_isBusy h t a1 = some r) : CT yX2_isBusy MX2_isBusy rmX2_isBusy l g [va_rf (some t), .int a1] (thE g h) (.inl (some (.int (bi r)))) (thE g h) := by
  rw [fX2_isBusy] at hf
  refine CT.of (lv0 := [(0, va_rf (some t)), (1, .int a1)]) (by decide +kernel) rfl rfl (by simp [lg_sl, cat_q, cat_i, cat_l, cat_r]) (by simp [lv_args, cat_q, cat_i, cat_l, cat_r]) hl ?_
  refine aw_iconst (0 : Int32) dX2_isBusy_0 (by decide) ?_
  refine aw_istore_n [(2, .int (0 : Int32)), (0, va_rf (some t)), (1, .int a1)] dX2_isBusy_1 rfl (by decide) rfl ?_
  refine aw_lv [1, 2, 0] rfl ?_
  exact wkX2_isBusy_2 hl _ _ _ _ _ hf
abbrev MX4_init : xM := (RX4, cX4_init, 8, none, "<init>")
abbrev rmX4_init : Room := { frames := 1, cells := 0, slots := 0, locals := 20 }
theorem ciX4_init : Cond.code yX4_init cX4_init 8 none ∈ wt ∧ Cond.initialized yX4_init.cls ∈ wt ∧ (yX4_init.cls ≠ "java/lang/invoke/MethodHandle" ∧ yX4_init.cls ≠ "java/lang/invoke/VarHandle" ∧ (parseMethodDescriptor yX4_init.desc).map (fun d => d.parameters.length) = some 5) := ⟨wl2 (i := 59) rfl rfl, wl1 (i := 15) rfl rfl, by decide +kernel, by decide +kernel, by decide +kernel⟩
def fX4_init_37 (h : TH) (t : Nat) (a6 : Int32) (a7 : Option Nat) (s1 : Int32) : Option (TH) :=
  (if t_kd h t = 4 then some (s_R (s_I (s_I h t 3 s1) t 4 a6) t 5 a7) else none)
set_option maxHeartbeats 4000000 in
set_option maxRecDepth 100000 in
theorem wkX4_init_37 {l : Launch} {g : xG} {x0 : xV} (hl : l.stackTraces = false) {r : TH} (h : TH) (t : Nat) (a6 : Int32) (a7 : Option Nat) (s1 : Int32) (hf : fX4_init_37 h t a6 a7 s1 = some r) : AW MX4_init rmX4_init l g x0 (.inl none) (thE g r) 0 0 (thE g h) 37 [(0, va_rf (some t)), (6, .int a6), (7, va_rf a7)] [.int s1, va_rf (some t)] := by
  rw [fX4_init_37] at hf
  obtain ⟨hk_1, hf⟩ := xifn hf
  refine th_putIF 3 3 xtX4 rfl hk_1 rfl ⟨by decide, by decide, rfl⟩ rfl rfl rfl (wl2 (i := 68) rfl rfl) rfl rfl rfl dX4_init_37 ?_
  refine aw_qload_n 0 dX4_init_40 rfl ?_
  refine aw_iload 1 dX4_init_41 rfl ?_
  refine th_putIF 3 4 xtX4 rfl hk_1 rfl ⟨by decide, by decide, rfl⟩ rfl rfl rfl (wl2 (i := 71) rfl rfl) rfl rfl rfl dX4_init_43 ?_
  refine aw_qload_n 0 dX4_init_46 rfl ?_
  refine aw_qload 2 dX4_init_47 rfl ?_
  refine th_putRF 3 5 xtX4 rfl hk_1 rfl ⟨by decide, by decide, rfl⟩ rfl (nar_q _ _) (fit_q _ _) (wl2 (i := 73) rfl rfl) rfl rfl rfl dX4_init_49 ?_
  cases hf
  exact aw_vret dX4_init_52 rfl rfl rfl ⟨Nat.le_of_ble_eq_true rfl, Nat.le_of_ble_eq_true rfl⟩
def fX4_init (h : TH) (t : Nat) (a1 : Int64) (a3 : Int64) (a5 : Int32) (a6 : Int32) (a7 : Option Nat) : Option (TH) :=
  (if t_kd h t = 4 then (if a7 = none then fX4_init_37 (s_I (s_J (s_J h t 0 a1) t 1 a3) t 2 a5) t a6 a7 (0 : Int32) else a7.bind fun p3 => (if t_kd (s_I (s_J (s_J h t 0 a1) t 1 a3) t 2 a5) p3 = 4 then fX4_init_37 (s_I (s_J (s_J h t 0 a1) t 1 a3) t 2 a5) t a6 a7 ((t_I (s_I (s_J (s_J h t 0 a1) t 1 a3) t 2 a5) p3 3) + (1 : Int32)) else none)) else none)
set_option maxHeartbeats 4000000 in
set_option maxRecDepth 100000 in
theorem ctX4_init {l : Launch} {g : xG} (hl : l.stackTraces = false) {r : TH} (h : TH) (t : Nat) (a1 : Int64) (a3 : Int64) (a5 : Int32) (a6 : Int32) (a7 : Option Nat) (hf : fX4_init h t a1 a3 a5 a6 a7 = some r) : CT yX4_init MX4_init rmX4_init l g [va_rf (some t), .long a1, .long a3, .int a5, .int a6, va_rf a7] (thE g h) (.inl none) (thE g r) := by
  rw [fX4_init] at hf
  refine CT.of (lv0 := [(0, va_rf (some t)), (1, .long a1), (3, .long a3), (5, .int a5), (6, .int a6), (7, va_rf a7)]) (by decide +kernel) rfl rfl (by simp [lg_sl, cat_q, cat_i, cat_l, cat_r]) (by simp [lv_args, cat_q, cat_i, cat_l, cat_r]) hl ?_
  refine aw_qload_n 0 dX4_init_0 rfl ?_
  refine aw_objInit (r := (some t)) rfl (wl2 (i := 60) rfl rfl) dX4_init_1 (by simp [cat_q, cat_i, cat_l, cat_r]) ⟨Nat.le_of_ble_eq_true rfl, Nat.le_of_ble_eq_true rfl⟩ (wl1 (i := 24) rfl rfl) (wl1 (i := 25) rfl rfl) ?_
  refine aw_qload_n 0 dX4_init_4 rfl ?_
  refine aw_lload_n 1 dX4_init_5 rfl ?_
  obtain ⟨hk_1, hf⟩ := xifn hf
  refine th_putJF 3 0 xtX4 rfl hk_1 rfl ⟨by decide, by decide, rfl⟩ rfl rfl rfl (wl2 (i := 61) rfl rfl) rfl rfl rfl dX4_init_6 ?_
  refine aw_qload_n 0 dX4_init_9 rfl ?_
  refine aw_lload_n 2 dX4_init_10 rfl ?_
  refine th_putJF 3 1 xtX4 rfl hk_1 rfl ⟨by decide, by decide, rfl⟩ rfl rfl rfl (wl2 (i := 63) rfl rfl) rfl rfl rfl dX4_init_11 ?_
  refine aw_qload_n 0 dX4_init_14 rfl ?_
  refine aw_iload 3 dX4_init_15 rfl ?_
  refine th_putIF 3 2 xtX4 rfl hk_1 rfl ⟨by decide, by decide, rfl⟩ rfl rfl rfl (wl2 (i := 65) rfl rfl) rfl rfl rfl dX4_init_17 ?_
  refine aw_qload_n 0 dX4_init_20 rfl ?_
  refine aw_qload 5 dX4_init_21 rfl ?_
  refine aw_ifnonnull 30 dX4_init_23 (by decide) (fun c2 => ?_) (fun c2 => ?_)
  · rw [if_neg c2] at hf
    refine aw_qload 5 dX4_init_30 rfl ?_
    obtain ⟨p3, hp3, hf⟩ := xbind hf
    obtain ⟨hk_4, hf⟩ := xifn hf
    refine th_getI 3 3 inX4 hp3 hk_4 rfl ⟨by decide, by decide, rfl⟩ (wl2 (i := 68) rfl rfl) dX4_init_32 ?_
    refine aw_iconst (1 : Int32) dX4_init_35 (by decide) ?_
    refine aw_iadd dX4_init_36 ?_
    refine aw_lv [0, 4, 5] rfl ?_
    exact wkX4_init_37 hl _ _ _ _ _ hf
  · rw [if_pos c2] at hf
    refine aw_iconst (0 : Int32) dX4_init_26 (by decide) ?_
    refine aw_goto 37 dX4_init_27 (by decide) ?_
    refine aw_lv [0, 4, 5] rfl ?_
    exact wkX4_init_37 hl _ _ _ _ _ hf
abbrev MX4_beginning : xM := (RX4, cX4_beginning, 4, (some (.object "AtariGarden$Position")), "beginning")
abbrev rmX4_beginning : Room := { frames := 2, cells := 1, slots := 6, locals := 47 }
theorem ciX4_beginning : Cond.code yX4_beginning cX4_beginning 4 (some (.object "AtariGarden$Position")) ∈ wt ∧ Cond.initialized yX4_beginning.cls ∈ wt ∧ (yX4_beginning.cls ≠ "java/lang/invoke/MethodHandle" ∧ yX4_beginning.cls ≠ "java/lang/invoke/VarHandle" ∧ (parseMethodDescriptor yX4_beginning.desc).map (fun d => d.parameters.length) = some 1) := ⟨wl2 (i := 54) rfl rfl, wl1 (i := 15) rfl rfl, by decide +kernel, by decide +kernel, by decide +kernel⟩
def fX4_beginning_51 (h : TH) (a1 : Int64) : Option (Option Nat × TH) :=
  (fX4_init (s_N h 4 0) (t_sz h) a1 (0 : Int64) (1 : Int32) (0 : Int32) none).bind fun q1 => some ((some (t_sz h)), q1)
set_option maxHeartbeats 4000000 in
set_option maxRecDepth 100000 in
theorem wkX4_beginning_51 {l : Launch} {g : xG} {x0 : xV} (hl : l.stackTraces = false) {r : Option Nat × TH} (h : TH) (a1 : Int64) (hf : fX4_beginning_51 h a1 = some r) : AW MX4_beginning rmX4_beginning l g x0 (.inl (some (va_rf r.1))) (thE g r.2) 0 0 (thE g h) 51 [(1, .long a1)] [] := by
  rw [fX4_beginning_51] at hf
  refine th_new 3 xtX4 rfl (by decide) (wl2 (i := 55) rfl rfl) (wl2 (i := 56) rfl rfl) (wl1 (i := 15) rfl rfl) (by decide) ⟨Nat.le_of_ble_eq_true rfl, Nat.le_of_ble_eq_true rfl⟩ dX4_beginning_51 ?_
  refine aw_dup dX4_beginning_54 (cat_q _) ?_
  refine aw_lload_n 0 dX4_beginning_55 rfl ?_
  refine aw_lconst (0 : Int64) dX4_beginning_56 (by decide) ?_
  refine aw_iconst (1 : Int32) dX4_beginning_57 (by decide) ?_
  refine aw_iconst (0 : Int32) dX4_beginning_58 (by decide) ?_
  refine aw_null dX4_beginning_59 ?_
  obtain ⟨q1, hq1, hf⟩ := xbind hf
  refine aw_callI _ [.long a1, .long (0 : Int64), .int (1 : Int32), .int (0 : Int32), va_rf none] 5 rfl rfl (ctX4_init hl _ _ _ _ _ _ _ hq1) ⟨wl2 (i := 57) rfl rfl, ciX4_init⟩ (wl2 (i := 58) rfl rfl) dX4_beginning_60 rfl rfl (by simp [cat_q, cat_i, cat_l, cat_r]) ⟨Nat.le_of_ble_eq_true rfl, Nat.le_of_ble_eq_true rfl⟩ ⟨Nat.le_of_ble_eq_true rfl, Nat.le_of_ble_eq_true rfl⟩ ?_
  cases hf
  exact aw_aret "AtariGarden$Position" dX4_beginning_63 rfl rfl rfl ⟨Nat.le_of_ble_eq_true rfl, Nat.le_of_ble_eq_true rfl⟩
def fX4_beginning_22 : Nat → TH → Int32 → Int64 → Int32 → Option (Option Nat × TH)
  | 0, _, _, _, _ => none
  | n + 1, h, a0, a1, a3 =>
    (if a0 ≤ a3 then fX4_beginning_51 h a1 else (if (4 : Int32) ≤ a3 then fX4_beginning_51 h a1 else (if xin a3 4 = true then fX4_beginning_22 n h a0 (a1 ||| (x_shl (1 : Int64) (hpI a3.toNatClampNeg))) (a3 + (1 : Int32)) else none)))
set_option maxHeartbeats 4000000 in
set_option maxRecDepth 100000 in
theorem wkX4_beginning_22 {l : Launch} {g : xG} {x0 : xV} (hl : l.stackTraces = false) {r : Option Nat × TH} : ∀ (n : Nat) (h : TH) (a0 : Int32) (a1 : Int64) (a3 : Int32), fX4_beginning_22 n h a0 a1 a3 = some r → AW MX4_beginning rmX4_beginning l g x0 (.inl (some (va_rf r.1))) (thE g r.2) 0 0 (thE g h) 22 [(0, .int a0), (1, .long a1), (3, .int a3)] [] := by
  intro n
  induction n with
  | zero => intro h a0 a1 a3 hf; exact absurd hf (by simp [fX4_beginning_22])
  | succ n hk22 =>
    intro h a0 a1 a3 hf
    rw [fX4_beginning_22] at hf
    refine aw_iload_n 2 dX4_beginning_22 rfl ?_
    refine aw_iload_n 0 dX4_beginning_23 rfl ?_
    refine aw_icmp_ge 51 dX4_beginning_24 (by decide) (fun c1 => ?_) (fun c1 => ?_)
    · rw [if_pos c1] at hf
      refine aw_lv [1] rfl ?_
      exact wkX4_beginning_51 hl _ _ hf
    · rw [if_neg c1] at hf
      refine aw_iload_n 2 dX4_beginning_27 rfl ?_
      refine aw_gslen rfl rfl (wl2 (i := 87) rfl rfl) dX4_beginning_28 dX4_beginning_31 ?_
      refine aw_icmp_ge 51 dX4_beginning_32 (by decide) (fun c2 => ?_) (fun c2 => ?_)
      · rw [if_pos c2] at hf
        refine aw_lv [1] rfl ?_
        exact wkX4_beginning_51 hl _ _ hf
      · rw [if_neg c2] at hf
        refine aw_lload_n 1 dX4_beginning_35 rfl ?_
        refine aw_lconst (1 : Int64) dX4_beginning_36 (by decide) ?_
        obtain ⟨hi3, hf⟩ := xifn hf
        refine aw_gsld 2 rfl rfl (wl2 (i := 87) rfl rfl) dX4_beginning_37 dX4_beginning_40 rfl dX4_beginning_41 (xin_v hi3) ?_
        refine aw_lshl dX4_beginning_42 ?_
        refine aw_lor dX4_beginning_43 ?_
        refine aw_lstore_n [(1, .long (a1 ||| (x_shl (1 : Int64) (hpI a3.toNatClampNeg)))), (0, .int a0), (3, .int a3)] dX4_beginning_44 rfl (by decide) rfl ?_
        refine aw_iinc [(3, .int (a3 + (1 : Int32))), (1, .long (a1 ||| (x_shl (1 : Int64) (hpI a3.toNatClampNeg)))), (0, .int a0)] 2 dX4_beginning_45 rfl rfl (by decide) rfl ?_
        refine aw_goto 22 dX4_beginning_48 (by decide) ?_
        refine aw_lv [2, 1, 0] rfl ?_
        exact hk22 _ _ _ _ hf
def fX4_beginning (h : TH) (a0 : Int32) : Option (Option Nat × TH) :=
  (if (2 : Int32) ≤ a0 then fX4_beginning_22 FU h a0 (0 : Int64) (0 : Int32) else (fX4_init (s_N h 4 0) (t_sz h) (0 : Int64) (0 : Int64) (0 : Int32) (0 : Int32) none).bind fun q2 => some ((some (t_sz h)), q2))
set_option maxHeartbeats 4000000 in
set_option maxRecDepth 100000 in
theorem ctX4_beginning {l : Launch} {g : xG} (hl : l.stackTraces = false) {r : Option Nat × TH} (h : TH) (a0 : Int32) (hf : fX4_beginning h a0 = some r) : CT yX4_beginning MX4_beginning rmX4_beginning l g [.int a0] (thE g h) (.inl (some (va_rf r.1))) (thE g r.2) := by
  rw [fX4_beginning] at hf
  refine CT.of (lv0 := [(0, .int a0)]) (by decide +kernel) rfl rfl (Nat.le_of_ble_eq_true rfl) rfl hl ?_
  refine aw_iload_n 0 dX4_beginning_0 rfl ?_
  refine aw_iconst (2 : Int32) dX4_beginning_1 (by decide) ?_
  refine aw_icmp_ge 18 dX4_beginning_2 (by decide) (fun c1 => ?_) (fun c1 => ?_)
  · rw [if_pos c1] at hf
    refine aw_lconst (0 : Int64) dX4_beginning_18 (by decide) ?_
    refine aw_lstore_n [(1, .long (0 : Int64)), (0, .int a0)] dX4_beginning_19 rfl (by decide) rfl ?_
    refine aw_iconst (0 : Int32) dX4_beginning_20 (by decide) ?_
    refine aw_istore_n [(3, .int (0 : Int32)), (1, .long (0 : Int64)), (0, .int a0)] dX4_beginning_21 rfl (by decide) rfl ?_
    refine aw_lv [2, 1, 0] rfl ?_
    exact wkX4_beginning_22 hl _ _ _ _ _ hf
  · rw [if_neg c1] at hf
    refine th_new 3 xtX4 rfl (by decide) (wl2 (i := 55) rfl rfl) (wl2 (i := 56) rfl rfl) (wl1 (i := 15) rfl rfl) (by decide) ⟨Nat.le_of_ble_eq_true rfl, Nat.le_of_ble_eq_true rfl⟩ dX4_beginning_5 ?_
    refine aw_dup dX4_beginning_8 (cat_q _) ?_
    refine aw_lconst (0 : Int64) dX4_beginning_9 (by decide) ?_
    refine aw_lconst (0 : Int64) dX4_beginning_10 (by decide) ?_
    refine aw_iconst (0 : Int32) dX4_beginning_11 (by decide) ?_
    refine aw_iconst (0 : Int32) dX4_beginning_12 (by decide) ?_
    refine aw_null dX4_beginning_13 ?_
    obtain ⟨q2, hq2, hf⟩ := xbind hf
    refine aw_callI _ [.long (0 : Int64), .long (0 : Int64), .int (0 : Int32), .int (0 : Int32), va_rf none] 5 rfl rfl (ctX4_init hl _ _ _ _ _ _ _ hq2) ⟨wl2 (i := 57) rfl rfl, ciX4_init⟩ (wl2 (i := 58) rfl rfl) dX4_beginning_14 rfl rfl (by simp [cat_q, cat_i, cat_l, cat_r]) ⟨Nat.le_of_ble_eq_true rfl, Nat.le_of_ble_eq_true rfl⟩ ⟨Nat.le_of_ble_eq_true rfl, Nat.le_of_ble_eq_true rfl⟩ ?_
    cases hf
    exact aw_aret "AtariGarden$Position" dX4_beginning_17 rfl rfl rfl ⟨Nat.le_of_ble_eq_true rfl, Nat.le_of_ble_eq_true rfl⟩
abbrev MX4_stones : xM := (RX4, cX4_stones, 1, (some .long), "stones")
abbrev rmX4_stones : Room := { frames := 0, cells := 0, slots := 0, locals := 0 }
theorem ciX4_stones : Cond.code yX4_stones cX4_stones 1 (some .long) ∈ wt ∧ Cond.initialized yX4_stones.cls ∈ wt ∧ (yX4_stones.cls ≠ "java/lang/invoke/MethodHandle" ∧ yX4_stones.cls ≠ "java/lang/invoke/VarHandle" ∧ (parseMethodDescriptor yX4_stones.desc).map (fun d => d.parameters.length) = some 0) := ⟨wl2 (i := 92) rfl rfl, wl1 (i := 15) rfl rfl, by decide +kernel, by decide +kernel, by decide +kernel⟩
def fX4_stones (h : TH) (t : Nat) : Option (Int64) :=
  (if t_kd h t = 4 then some ((t_J h t 0) ||| (t_J h t 1)) else none)
set_option maxHeartbeats 4000000 in
set_option maxRecDepth 100000 in
theorem ctX4_stones {l : Launch} {g : xG} (hl : l.stackTraces = false) {r : Int64} (h : TH) (t : Nat) (hf : fX4_stones h t = some r) : CT yX4_stones MX4_stones rmX4_stones l g [va_rf (some t)] (thE g h) (.inl (some (.long r))) (thE g h) := by
  rw [fX4_stones] at hf
  refine CT.of (lv0 := [(0, va_rf (some t))]) (by decide +kernel) rfl rfl (by simp [lg_sl, cat_q, cat_i, cat_l, cat_r]) (by simp [lv_args, cat_q, cat_i, cat_l, cat_r]) hl ?_
  refine aw_qload_n 0 dX4_stones_0 rfl ?_
  obtain ⟨hk_1, hf⟩ := xifn hf
  refine th_getJ 3 0 inX4 rfl hk_1 rfl ⟨by decide, by decide, rfl⟩ (wl2 (i := 61) rfl rfl) dX4_stones_1 ?_
  refine aw_qload_n 0 dX4_stones_4 rfl ?_
  refine th_getJ 3 1 inX4 rfl hk_1 rfl ⟨by decide, by decide, rfl⟩ (wl2 (i := 63) rfl rfl) dX4_stones_5 ?_
  refine aw_lor dX4_stones_8 ?_
  cases hf
  exact aw_lret dX4_stones_9 rfl rfl rfl ⟨Nat.le_of_ble_eq_true rfl, Nat.le_of_ble_eq_true rfl⟩
abbrev MX3_keepForAll : xM := (RX3, cX3_keepForAll, 5, none, "keepForAll")
abbrev rmX3_keepForAll : Room := { frames := 0, cells := 0, slots := 0, locals := 0 }
theorem ciX3_keepForAll : Cond.code yX3_keepForAll cX3_keepForAll 5 none ∈ wt ∧ Cond.initialized yX3_keepForAll.cls ∈ wt ∧ (yX3_keepForAll.cls ≠ "java/lang/invoke/MethodHandle" ∧ yX3_keepForAll.cls ≠ "java/lang/invoke/VarHandle" ∧ (parseMethodDescriptor yX3_keepForAll.desc).map (fun d => d.parameters.length) = some 2) := ⟨wl2 (i := 100) rfl rfl, wl1 (i := 14) rfl rfl, by decide +kernel, by decide +kernel, by decide +kernel⟩
def fX3_keepForAll_32 (k3 : TH → Nat → Int64 → Int32 → Int32 → Option (TH)) (h : TH) (t : Nat) (a1 : Int64) (a3 : Int32) (a4 : Int32) : Option (TH) :=
  k3 h t a1 a3 (a4 + (1 : Int32))
set_option maxHeartbeats 4000000 in
set_option maxRecDepth 100000 in
theorem wkX3_keepForAll_32 {l : Launch} {g : xG} {x0 : xV} (hl : l.stackTraces = false) {r : TH} (k3 : TH → Nat → Int64 → Int32 → Int32 → Option (TH)) (hk3 : ∀ (h : TH) (t : Nat) (a1 : Int64) (a3 : Int32) (a4 : Int32), k3 h t a1 a3 a4 = some r → AW MX3_keepForAll rmX3_keepForAll l g x0 (.inl none) (thE g r) 0 0 (thE g h) 3 [(0, va_rf (some t)), (1, .long a1), (3, .int a3), (4, .int a4)] []) (h : TH) (t : Nat) (a1 : Int64) (a3 : Int32) (a4 : Int32) (hf : fX3_keepForAll_32 k3 h t a1 a3 a4 = some r) : AW MX3_keepForAll rmX3_keepForAll l g x0 (.inl none) (thE g r) 0 0 (thE g h) 32 [(0, va_rf (some t)), (1, .long a1), (3, .int a3), (4, .int a4)] [] := by
  rw [fX3_keepForAll_32] at hf
  refine aw_iinc [(4, .int (a4 + (1 : Int32))), (0, va_rf (some t)), (1, .long a1), (3, .int a3)] 3 dX3_keepForAll_32 rfl rfl (by decide) rfl ?_
  refine aw_goto 3 dX3_keepForAll_35 (by decide) ?_
  refine aw_lv [1, 2, 3, 0] rfl ?_
  exact hk3 _ _ _ _ _ hf
def fX3_keepForAll_3 : Nat → TH → Nat → Int64 → Int32 → Int32 → Option (TH)
  | 0, _, _, _, _, _ => none
  | n + 1, h, t, a1, a3, a4 =>
    (if t_kd h t = 3 then (t_R h t 7).bind fun p2 => (if t_kd h p2 = 9 then (if (nI (t_ln h p2)) ≤ a4 then some h else (if (a1 &&& (x_shl (1 : Int64) a4)) = (0 : Int64) then fX3_keepForAll_32 (fX3_keepForAll_3 n) h t a1 a3 a4 else (if xin a4 (t_ln h p2) = true then fX3_keepForAll_32 (fX3_keepForAll_3 n) (s_I h p2 a4.toNatClampNeg a3) t a1 a3 a4 else none))) else none) else none)
set_option maxHeartbeats 4000000 in
set_option maxRecDepth 100000 in
theorem wkX3_keepForAll_3 {l : Launch} {g : xG} {x0 : xV} (hl : l.stackTraces = false) {r : TH} : ∀ (n : Nat) (h : TH) (t : Nat) (a1 : Int64) (a3 : Int32) (a4 : Int32), fX3_keepForAll_3 n h t a1 a3 a4 = some r → AW MX3_keepForAll rmX3_keepForAll l g x0 (.inl none) (thE g r) 0 0 (thE g h) 3 [(0, va_rf (some t)), (1, .long a1), (3, .int a3), (4, .int a4)] [] := by
  intro n
  induction n with
  | zero => intro h t a1 a3 a4 hf; exact absurd hf (by simp [fX3_keepForAll_3])
  | succ n hk3 =>
    intro h t a1 a3 a4 hf
    rw [fX3_keepForAll_3] at hf
    refine aw_iload 3 dX3_keepForAll_3 rfl ?_
    refine aw_qload_n 0 dX3_keepForAll_5 rfl ?_
    obtain ⟨hk_1, hf⟩ := xifn hf
    refine th_getR 2 7 inX3 rfl hk_1 rfl ⟨by decide, by decide, rfl⟩ (wl2 (i := 140) rfl rfl) dX3_keepForAll_6 ?_
    obtain ⟨p2, hp2, hf⟩ := xbind hf
    obtain ⟨hk_3, hf⟩ := xifn hf
    refine th_alenI hp2 hk_3 dX3_keepForAll_9 ?_
    refine aw_icmp_ge 38 dX3_keepForAll_10 (by decide) (fun c4 => ?_) (fun c4 => ?_)
    · rw [if_pos c4] at hf
      cases hf
      exact aw_vret dX3_keepForAll_38 rfl rfl rfl ⟨Nat.le_of_ble_eq_true rfl, Nat.le_of_ble_eq_true rfl⟩
    · rw [if_neg c4] at hf
      refine aw_lload_n 1 dX3_keepForAll_13 rfl ?_
      refine aw_lconst (1 : Int64) dX3_keepForAll_14 (by decide) ?_
      refine aw_iload 3 dX3_keepForAll_15 rfl ?_
      refine aw_lshl dX3_keepForAll_17 ?_
      refine aw_land dX3_keepForAll_18 ?_
      refine aw_lconst (0 : Int64) dX3_keepForAll_19 (by decide) ?_
      refine aw_lcmp_eq 32 dX3_keepForAll_20 dX3_keepForAll_21 (by decide) (fun c5 => ?_) (fun c5 => ?_)
      · rw [if_pos c5] at hf
        refine aw_lv [0, 1, 2, 3] rfl ?_
        exact wkX3_keepForAll_32 hl _ hk3 _ _ _ _ _ hf
      · rw [if_neg c5] at hf
        refine aw_qload_n 0 dX3_keepForAll_24 rfl ?_
        refine th_getR 2 7 inX3 rfl hk_1 rfl ⟨by decide, by decide, rfl⟩ (wl2 (i := 140) rfl rfl) dX3_keepForAll_25 ?_
        refine aw_iload 3 dX3_keepForAll_28 rfl ?_
        refine aw_iload_n 2 dX3_keepForAll_30 rfl ?_
        obtain ⟨hi6, hf⟩ := xifn hf
        refine th_iast hp2 hk_3 (xin_v hi6) dX3_keepForAll_31 ?_
        refine aw_lv [0, 1, 2, 3] rfl ?_
        exact wkX3_keepForAll_32 hl _ hk3 _ _ _ _ _ hf
def fX3_keepForAll (h : TH) (t : Nat) (a1 : Int64) (a3 : Int32) : Option (TH) :=
  fX3_keepForAll_3 FU h t a1 a3 (0 : Int32)
set_option maxHeartbeats 4000000 in
set_option maxRecDepth 100000 in
theorem ctX3_keepForAll {l : Launch} {g : xG} (hl : l.stackTraces = false) {r : TH} (h : TH) (t : Nat) (a1 : Int64) (a3 : Int32) (hf : fX3_keepForAll h t a1 a3 = some r) : CT yX3_keepForAll MX3_keepForAll rmX3_keepForAll l g [va_rf (some t), .long a1, .int a3] (thE g h) (.inl none) (thE g r) := by
  rw [fX3_keepForAll] at hf
  refine CT.of (lv0 := [(0, va_rf (some t)), (1, .long a1), (3, .int a3)]) (by decide +kernel) rfl rfl (by simp [lg_sl, cat_q, cat_i, cat_l, cat_r]) (by simp [lv_args, cat_q, cat_i, cat_l, cat_r]) hl ?_
  refine aw_iconst (0 : Int32) dX3_keepForAll_0 (by decide) ?_
  refine aw_istore [(4, .int (0 : Int32)), (0, va_rf (some t)), (1, .long a1), (3, .int a3)] dX3_keepForAll_1 (by decide) rfl ?_
  refine aw_lv [1, 2, 3, 0] rfl ?_
  exact wkX3_keepForAll_3 hl _ _ _ _ _ _ hf
abbrev MX4_chainAt : xM := (RX4, cX4_chainAt, 4, (some .long), "chainAt")
abbrev rmX4_chainAt : Room := { frames := 2, cells := 0, slots := 0, locals := 51 }
theorem ciX4_chainAt : Cond.code yX4_chainAt cX4_chainAt 4 (some .long) ∈ wt ∧ Cond.initialized yX4_chainAt.cls ∈ wt ∧ (yX4_chainAt.cls ≠ "java/lang/invoke/MethodHandle" ∧ yX4_chainAt.cls ≠ "java/lang/invoke/VarHandle" ∧ (parseMethodDescriptor yX4_chainAt.desc).map (fun d => d.parameters.length) = some 1) := ⟨wl2 (i := 110) rfl rfl, wl1 (i := 15) rfl rfl, by decide +kernel, by decide +kernel, by decide +kernel⟩
def fX4_chainAt_27 (h : TH) (t : Nat) (s0 : Int64) (s1 : Int64) : Option (Int64) :=
  (fX0_flood s0 s1).bind fun q1 => some q1
set_option maxHeartbeats 4000000 in
set_option maxRecDepth 100000 in
theorem wkX4_chainAt_27 {l : Launch} {g : xG} {x0 : xV} (hl : l.stackTraces = false) {r : Int64} (h : TH) (t : Nat) (s0 : Int64) (s1 : Int64) (hf : fX4_chainAt_27 h t s0 s1 = some r) : AW MX4_chainAt rmX4_chainAt l g x0 (.inl (some (.long r))) (thE g h) 0 0 (thE g h) 27 [] [.long s1, .long s0] := by
  rw [fX4_chainAt_27] at hf
  obtain ⟨q1, hq1, hf⟩ := xbind hf
  refine aw_callS [.long s0, .long s1] 2 (ctX0_flood hl _ _ hq1) ⟨wl2 (i := 111) rfl rfl, ciX0_flood⟩ (wl2 (i := 112) rfl rfl) dX4_chainAt_27 rfl rfl (Nat.le_of_ble_eq_true rfl) ⟨Nat.le_of_ble_eq_true rfl, Nat.le_of_ble_eq_true rfl⟩ ⟨Nat.le_of_ble_eq_true rfl, Nat.le_of_ble_eq_true rfl⟩ ?_
  cases hf
  exact aw_lret dX4_chainAt_30 rfl rfl rfl ⟨Nat.le_of_ble_eq_true rfl, Nat.le_of_ble_eq_true rfl⟩
def fX4_chainAt (h : TH) (t : Nat) (a1 : Int32) : Option (Int64) :=
  (if t_kd h t = 4 then (if ((t_J h t 0) &&& (x_shl (1 : Int64) a1)) = (0 : Int64) then fX4_chainAt_27 h t (x_shl (1 : Int64) a1) (t_J h t 1) else fX4_chainAt_27 h t (x_shl (1 : Int64) a1) (t_J h t 0)) else none)
set_option maxHeartbeats 4000000 in
set_option maxRecDepth 100000 in
theorem ctX4_chainAt {l : Launch} {g : xG} (hl : l.stackTraces = false) {r : Int64} (h : TH) (t : Nat) (a1 : Int32) (hf : fX4_chainAt h t a1 = some r) : CT yX4_chainAt MX4_chainAt rmX4_chainAt l g [va_rf (some t), .int a1] (thE g h) (.inl (some (.long r))) (thE g h) := by
  rw [fX4_chainAt] at hf
  refine CT.of (lv0 := [(0, va_rf (some t)), (1, .int a1)]) (by decide +kernel) rfl rfl (by simp [lg_sl, cat_q, cat_i, cat_l, cat_r]) (by simp [lv_args, cat_q, cat_i, cat_l, cat_r]) hl ?_
  refine aw_lconst (1 : Int64) dX4_chainAt_0 (by decide) ?_
  refine aw_iload_n 1 dX4_chainAt_1 rfl ?_
  refine aw_lshl dX4_chainAt_2 ?_
  refine aw_lstore_n [(2, .long (x_shl (1 : Int64) a1)), (0, va_rf (some t)), (1, .int a1)] dX4_chainAt_3 rfl (by decide) rfl ?_
  refine aw_lload_n 0 dX4_chainAt_4 rfl ?_
  refine aw_qload_n 1 dX4_chainAt_5 rfl ?_
  obtain ⟨hk_1, hf⟩ := xifn hf
  refine th_getJ 3 0 inX4 rfl hk_1 rfl ⟨by decide, by decide, rfl⟩ (wl2 (i := 61) rfl rfl) dX4_chainAt_6 ?_
  refine aw_lload_n 0 dX4_chainAt_9 rfl ?_
  refine aw_land dX4_chainAt_10 ?_
  refine aw_lconst (0 : Int64) dX4_chainAt_11 (by decide) ?_
  refine aw_lcmp_eq 23 dX4_chainAt_12 dX4_chainAt_13 (by decide) (fun c2 => ?_) (fun c2 => ?_)
  · rw [if_pos c2] at hf
    refine aw_qload_n 1 dX4_chainAt_23 rfl ?_
    refine th_getJ 3 1 inX4 rfl hk_1 rfl ⟨by decide, by decide, rfl⟩ (wl2 (i := 63) rfl rfl) dX4_chainAt_24 ?_
    refine aw_lv [] rfl ?_
    exact wkX4_chainAt_27 hl _ _ _ _ hf
  · rw [if_neg c2] at hf
    refine aw_qload_n 1 dX4_chainAt_16 rfl ?_
    refine th_getJ 3 0 inX4 rfl hk_1 rfl ⟨by decide, by decide, rfl⟩ (wl2 (i := 61) rfl rfl) dX4_chainAt_17 ?_
    refine aw_goto 27 dX4_chainAt_20 (by decide) ?_
    refine aw_lv [] rfl ?_
    exact wkX4_chainAt_27 hl _ _ _ _ hf
abbrev MX3_keepLiberties : xM := (RX3, cX3_keepLiberties, 8, none, "keepLiberties")
abbrev rmX3_keepLiberties : Room := { frames := 3, cells := 0, slots := 0, locals := 74 }
theorem ciX3_keepLiberties : Cond.code yX3_keepLiberties cX3_keepLiberties 8 none ∈ wt ∧ Cond.initialized yX3_keepLiberties.cls ∈ wt ∧ (yX3_keepLiberties.cls ≠ "java/lang/invoke/MethodHandle" ∧ yX3_keepLiberties.cls ≠ "java/lang/invoke/VarHandle" ∧ (parseMethodDescriptor yX3_keepLiberties.desc).map (fun d => d.parameters.length) = some 1) := ⟨wl2 (i := 96) rfl rfl, wl1 (i := 14) rfl rfl, by decide +kernel, by decide +kernel, by decide +kernel⟩
def fX3_keepLiberties_75 (k16 : TH → Nat → Int64 → Int32 → Option (TH)) (h : TH) (t : Nat) (a3 : Int64) (a5 : Int32) : Option (TH) :=
  k16 h t a3 (a5 + (1 : Int32))
set_option maxHeartbeats 4000000 in
set_option maxRecDepth 100000 in
theorem wkX3_keepLiberties_75 {l : Launch} {g : xG} {x0 : xV} (hl : l.stackTraces = false) {r : TH} (k16 : TH → Nat → Int64 → Int32 → Option (TH)) (hk16 : ∀ (h : TH) (t : Nat) (a3 : Int64) (a5 : Int32), k16 h t a3 a5 = some r → AW MX3_keepLiberties rmX3_keepLiberties l g x0 (.inl none) (thE g r) 0 0 (thE g h) 16 [(0, va_rf (some t)), (3, .long a3), (5, .int a5)] []) (h : TH) (t : Nat) (a3 : Int64) (a5 : Int32) (hf : fX3_keepLiberties_75 k16 h t a3 a5 = some r) : AW MX3_keepLiberties rmX3_keepLiberties l g x0 (.inl none) (thE g r) 0 0 (thE g h) 75 [(0, va_rf (some t)), (3, .long a3), (5, .int a5)] [] := by
  rw [fX3_keepLiberties_75] at hf
  refine aw_iinc [(5, .int (a5 + (1 : Int32))), (0, va_rf (some t)), (3, .long a3)] 2 dX3_keepLiberties_75 rfl rfl (by decide) rfl ?_
  refine aw_goto 16 dX3_keepLiberties_78 (by decide) ?_
  refine aw_lv [1, 2, 0] rfl ?_
  exact hk16 _ _ _ _ hf
def fX3_keepLiberties_16 : Nat → TH → Nat → Int64 → Int32 → Option (TH)
  | 0, _, _, _, _ => none
  | n + 1, h, t, a3, a5 =>
    (if (49 : Int32) ≤ a5 then some h else (if (a3 &&& (x_shl (1 : Int64) a5)) = (0 : Int64) then fX3_keepLiberties_75 (fX3_keepLiberties_16 n) h t a3 a5 else (if t_kd h t = 3 then (t_R h t 6).bind fun p4 => (if t_kd h p4 = 4 then (fX4_chainAt h p4 a5).bind fun q6 => (fX4_stones h p4).bind fun q7 => (fX0_libertiesOf q6 q7).bind fun q8 => (fJ_bitCount q8).bind fun q9 => (fX3_keepForAll h t q6 q9).bind fun q10 => fX3_keepLiberties_75 (fX3_keepLiberties_16 n) q10 t (a3 &&& (q6 ^^^ (-1 : Int64))) a5 else none) else none)))
set_option maxHeartbeats 4000000 in
set_option maxRecDepth 100000 in
theorem wkX3_keepLiberties_16 {l : Launch} {g : xG} {x0 : xV} (hl : l.stackTraces = false) {r : TH} : ∀ (n : Nat) (h : TH) (t : Nat) (a3 : Int64) (a5 : Int32), fX3_keepLiberties_16 n h t a3 a5 = some r → AW MX3_keepLiberties rmX3_keepLiberties l g x0 (.inl none) (thE g r) 0 0 (thE g h) 16 [(0, va_rf (some t)), (3, .long a3), (5, .int a5)] [] := by
  intro n
  induction n with
  | zero => intro h t a3 a5 hf; exact absurd hf (by simp [fX3_keepLiberties_16])
  | succ n hk16 =>
    intro h t a3 a5 hf
    rw [fX3_keepLiberties_16] at hf
    refine aw_iload 2 dX3_keepLiberties_16 rfl ?_
    refine aw_bipush (49 : Int32) dX3_keepLiberties_18 (by decide) ?_
    refine aw_icmp_ge 81 dX3_keepLiberties_20 (by decide) (fun c1 => ?_) (fun c1 => ?_)
    · rw [if_pos c1] at hf
      cases hf
      exact aw_vret dX3_keepLiberties_81 rfl rfl rfl ⟨Nat.le_of_ble_eq_true rfl, Nat.le_of_ble_eq_true rfl⟩
    · rw [if_neg c1] at hf
      refine aw_lload_n 1 dX3_keepLiberties_23 rfl ?_
      refine aw_lconst (1 : Int64) dX3_keepLiberties_24 (by decide) ?_
      refine aw_iload 2 dX3_keepLiberties_25 rfl ?_
      refine aw_lshl dX3_keepLiberties_27 ?_
      refine aw_land dX3_keepLiberties_28 ?_
      refine aw_lconst (0 : Int64) dX3_keepLiberties_29 (by decide) ?_
      refine aw_lcmp_eq 75 dX3_keepLiberties_30 dX3_keepLiberties_31 (by decide) (fun c2 => ?_) (fun c2 => ?_)
      · rw [if_pos c2] at hf
        refine aw_lv [0, 1, 2] rfl ?_
        exact wkX3_keepLiberties_75 hl _ hk16 _ _ _ _ hf
      · rw [if_neg c2] at hf
        refine aw_qload_n 0 dX3_keepLiberties_34 rfl ?_
        obtain ⟨hk_3, hf⟩ := xifn hf
        refine th_getR 2 6 inX3 rfl hk_3 rfl ⟨by decide, by decide, rfl⟩ (wl2 (i := 137) rfl rfl) dX3_keepLiberties_35 ?_
        refine aw_iload 2 dX3_keepLiberties_38 rfl ?_
        obtain ⟨p4, hp4, hf⟩ := xbind hf
        obtain ⟨hk_5, hf⟩ := xifn hf
        obtain ⟨q6, hq6, hf⟩ := xbind hf
        refine aw_callV 3 (t_R h t 6) [.int a5] 1 hp4 (thC_ob (h := h) hk_5 (by decide)) rfl rfl (ctX4_chainAt hl _ _ _ hq6) ⟨wl2 (i := 107) rfl rfl, ciX4_chainAt⟩ (wl2 (i := 108) rfl rfl) (wl2 (i := 109) rfl rfl) dX3_keepLiberties_40 rfl rfl (Nat.le_of_ble_eq_true rfl) ⟨Nat.le_of_ble_eq_true rfl, Nat.le_of_ble_eq_true rfl⟩ ⟨Nat.le_of_ble_eq_true rfl, Nat.le_of_ble_eq_true rfl⟩ ?_
        refine aw_lstore [(6, .long q6), (0, va_rf (some t)), (3, .long a3), (5, .int a5)] dX3_keepLiberties_43 (by decide) rfl ?_
        refine aw_qload_n 1 dX3_keepLiberties_45 rfl ?_
        refine aw_lload 0 dX3_keepLiberties_46 rfl ?_
        refine aw_lload 0 dX3_keepLiberties_48 rfl ?_
        refine aw_qload_n 1 dX3_keepLiberties_50 rfl ?_
        refine th_getR 2 6 inX3 rfl hk_3 rfl ⟨by decide, by decide, rfl⟩ (wl2 (i := 137) rfl rfl) dX3_keepLiberties_51 ?_
        obtain ⟨q7, hq7, hf⟩ := xbind hf
        refine aw_callV 3 (t_R h t 6) [] 0 hp4 (thC_ob (h := h) hk_5 (by decide)) rfl rfl (ctX4_stones hl _ _ hq7) ⟨wl2 (i := 89) rfl rfl, ciX4_stones⟩ (wl2 (i := 90) rfl rfl) (wl2 (i := 91) rfl rfl) dX3_keepLiberties_54 rfl rfl (by simp [cat_q, cat_i, cat_l, cat_r]) ⟨Nat.le_of_ble_eq_true rfl, Nat.le_of_ble_eq_true rfl⟩ ⟨Nat.le_of_ble_eq_true rfl, Nat.le_of_ble_eq_true rfl⟩ ?_
        obtain ⟨q8, hq8, hf⟩ := xbind hf
        refine aw_callS [.long q6, .long q7] 2 (ctX0_libertiesOf hl _ _ hq8) ⟨wl2 (i := 115) rfl rfl, ciX0_libertiesOf⟩ (wl2 (i := 116) rfl rfl) dX3_keepLiberties_57 rfl rfl (by simp [cat_q, cat_i, cat_l, cat_r]) ⟨Nat.le_of_ble_eq_true rfl, Nat.le_of_ble_eq_true rfl⟩ ⟨Nat.le_of_ble_eq_true rfl, Nat.le_of_ble_eq_true rfl⟩ ?_
        obtain ⟨q9, hq9, hf⟩ := xbind hf
        refine aw_callS [.long q8] 1 (ctJ_bitCount hl _ hq9) ⟨wl2 (i := 119) rfl rfl, ciJ_bitCount⟩ (wl2 (i := 120) rfl rfl) dX3_keepLiberties_60 rfl rfl (by simp [cat_q, cat_i, cat_l, cat_r]) ⟨Nat.le_of_ble_eq_true rfl, Nat.le_of_ble_eq_true rfl⟩ ⟨Nat.le_of_ble_eq_true rfl, Nat.le_of_ble_eq_true rfl⟩ ?_
        obtain ⟨q10, hq10, hf⟩ := xbind hf
        refine aw_callV 2 (some t) [.long q6, .int q9] 2 rfl (thC_ob (h := h) hk_3 (by decide)) rfl rfl (ctX3_keepForAll hl _ _ _ _ hq10) ⟨wl2 (i := 97) rfl rfl, ciX3_keepForAll⟩ (wl2 (i := 99) rfl rfl) (wl0 (i := 7) rfl rfl) dX3_keepLiberties_63 rfl rfl (Nat.le_of_ble_eq_true rfl) ⟨Nat.le_of_ble_eq_true rfl, Nat.le_of_ble_eq_true rfl⟩ ⟨Nat.le_of_ble_eq_true rfl, Nat.le_of_ble_eq_true rfl⟩ ?_
        refine aw_lload_n 2 dX3_keepLiberties_66 rfl ?_
        refine aw_lload 0 dX3_keepLiberties_67 rfl ?_
        refine aw_ldc2 (-1 : Int64) rfl (wl2 (i := 125) rfl rfl) dX3_keepLiberties_69 ?_
        refine aw_lxor dX3_keepLiberties_72 ?_
        refine aw_land dX3_keepLiberties_73 ?_
        refine aw_lstore_n [(3, .long (a3 &&& (q6 ^^^ (-1 : Int64)))), (6, .long q6), (0, va_rf (some t)), (5, .int a5)] dX3_keepLiberties_74 rfl (by decide) rfl ?_
        refine aw_lv [2, 0, 3] rfl ?_
        exact wkX3_keepLiberties_75 hl _ hk16 _ _ _ _ hf
def fX3_keepLiberties (h : TH) (t : Nat) (a1 : Int64) : Option (TH) :=
  (if t_kd h t = 3 then (fX3_keepForAll h t a1 (0 : Int32)).bind fun q2 => (fX0_around a1).bind fun q3 => fX3_keepLiberties_16 FU q2 t (a1 ||| q3) (0 : Int32) else none)
set_option maxHeartbeats 4000000 in
set_option maxRecDepth 100000 in
theorem ctX3_keepLiberties {l : Launch} {g : xG} (hl : l.stackTraces = false) {r : TH} (h : TH) (t : Nat) (a1 : Int64) (hf : fX3_keepLiberties h t a1 = some r) : CT yX3_keepLiberties MX3_keepLiberties rmX3_keepLiberties l g [va_rf (some t), .long a1] (thE g h) (.inl none) (thE g r) := by
  rw [fX3_keepLiberties] at hf
  refine CT.of (lv0 := [(0, va_rf (some t)), (1, .long a1)]) (by decide +kernel) rfl rfl (by simp [lg_sl, cat_q, cat_i, cat_l, cat_r]) (by simp [lv_args, cat_q, cat_i, cat_l, cat_r]) hl ?_
  refine aw_qload_n 0 dX3_keepLiberties_0 rfl ?_
  refine aw_lload_n 1 dX3_keepLiberties_1 rfl ?_
  refine aw_iconst (0 : Int32) dX3_keepLiberties_2 (by decide) ?_
  obtain ⟨hk_1, hf⟩ := xifn hf
  obtain ⟨q2, hq2, hf⟩ := xbind hf
  refine aw_callV 2 (some t) [.long a1, .int (0 : Int32)] 2 rfl (thC_ob (h := h) hk_1 (by decide)) rfl rfl (ctX3_keepForAll hl _ _ _ _ hq2) ⟨wl2 (i := 97) rfl rfl, ciX3_keepForAll⟩ (wl2 (i := 99) rfl rfl) (wl0 (i := 7) rfl rfl) dX3_keepLiberties_3 rfl rfl (Nat.le_of_ble_eq_true rfl) ⟨Nat.le_of_ble_eq_true rfl, Nat.le_of_ble_eq_true rfl⟩ ⟨Nat.le_of_ble_eq_true rfl, Nat.le_of_ble_eq_true rfl⟩ ?_
  refine aw_lload_n 1 dX3_keepLiberties_6 rfl ?_
  refine aw_lload_n 1 dX3_keepLiberties_7 rfl ?_
  obtain ⟨q3, hq3, hf⟩ := xbind hf
  refine aw_callS [.long a1] 1 (ctX0_around hl _ hq3) ⟨wl2 (i := 101) rfl rfl, ciX0_around⟩ (wl2 (i := 102) rfl rfl) dX3_keepLiberties_8 rfl rfl (Nat.le_of_ble_eq_true rfl) ⟨Nat.le_of_ble_eq_true rfl, Nat.le_of_ble_eq_true rfl⟩ ⟨Nat.le_of_ble_eq_true rfl, Nat.le_of_ble_eq_true rfl⟩ ?_
  refine aw_lor dX3_keepLiberties_11 ?_
  refine aw_lstore_n [(3, .long (a1 ||| q3)), (0, va_rf (some t)), (1, .long a1)] dX3_keepLiberties_12 rfl (by decide) rfl ?_
  refine aw_iconst (0 : Int32) dX3_keepLiberties_13 (by decide) ?_
  refine aw_istore [(5, .int (0 : Int32)), (3, .long (a1 ||| q3)), (0, va_rf (some t)), (1, .long a1)] dX3_keepLiberties_14 (by decide) rfl ?_
  refine aw_lv [2, 1, 0] rfl ?_
  exact wkX3_keepLiberties_16 hl _ _ _ _ _ hf
abbrev MX3_init : xM := (RX3, cX3_init, 7, none, "<init>")
abbrev rmX3_init : Room := { frames := 4, cells := 2, slots := 55, locals := 101 }
theorem ciX3_init : Cond.code yX3_init cX3_init 7 none ∈ wt ∧ Cond.initialized yX3_init.cls ∈ wt ∧ (yX3_init.cls ≠ "java/lang/invoke/MethodHandle" ∧ yX3_init.cls ≠ "java/lang/invoke/VarHandle" ∧ (parseMethodDescriptor yX3_init.desc).map (fun d => d.parameters.length) = some 6) := ⟨wl2 (i := 50) rfl rfl, wl1 (i := 14) rfl rfl, by decide +kernel, by decide +kernel, by decide +kernel⟩
def fX3_init (h : TH) (t : Nat) (a1 : Int32) (a2 : Int32) (a3 : Int32) (a4 : Int32) (a5 : Option Nat) (a6 : Option Nat) : Option (TH) :=
  (if t_kd (s_N h 9 49) t = 3 then (fX4_beginning (s_R (s_R (s_I (s_I (s_I (s_I (s_I (s_R (s_N h 9 49) t 7 (some (t_sz h))) t 8 (0 : Int32)) t 0 a1) t 1 a2) t 2 a3) t 3 a4) t 4 a5) t 5 a6) (a3 - a3 / (10 : Int32) * (10 : Int32))).bind fun q2 => (if t_kd q2.2 t = 3 then (t_R (s_R q2.2 t 6 q2.1) t 6).bind fun p4 => (if t_kd (s_R q2.2 t 6 q2.1) p4 = 4 then (fX4_stones (s_R q2.2 t 6 q2.1) p4).bind fun q6 => (fX3_keepLiberties (s_R q2.2 t 6 q2.1) t q6).bind fun q7 => some q7 else none) else none) else none)
set_option maxHeartbeats 4000000 in
set_option maxRecDepth 100000 in
theorem ctX3_init {l : Launch} {g : xG} (hl : l.stackTraces = false) {r : TH} (h : TH) (t : Nat) (a1 : Int32) (a2 : Int32) (a3 : Int32) (a4 : Int32) (a5 : Option Nat) (a6 : Option Nat) (hf : fX3_init h t a1 a2 a3 a4 a5 a6 = some r) : CT yX3_init MX3_init rmX3_init l g [va_rf (some t), .int a1, .int a2, .int a3, .int a4, va_rf a5, va_rf a6] (thE g h) (.inl none) (thE g r) := by
  rw [fX3_init] at hf
  refine CT.of (lv0 := [(0, va_rf (some t)), (1, .int a1), (2, .int a2), (3, .int a3), (4, .int a4), (5, va_rf a5), (6, va_rf a6)]) (by decide +kernel) rfl rfl (by simp [lg_sl, cat_q, cat_i, cat_l, cat_r]) (by simp [lv_args, cat_q, cat_i, cat_l, cat_r]) hl ?_
  refine aw_qload_n 0 dX3_init_0 rfl ?_
  refine aw_objInit (r := (some t)) rfl (wl2 (i := 51) rfl rfl) dX3_init_1 (Nat.le_of_ble_eq_true rfl) ⟨Nat.le_of_ble_eq_true rfl, Nat.le_of_ble_eq_true rfl⟩ (wl1 (i := 24) rfl rfl) (wl1 (i := 25) rfl rfl) ?_
  refine aw_qload_n 0 dX3_init_4 rfl ?_
  refine aw_bipush (49 : Int32) dX3_init_5 (by decide) ?_
  refine th_newI 49 (wl1 (i := 54) rfl rfl) (by decide) (by decide) (by decide) ⟨Nat.le_of_ble_eq_true rfl, Nat.le_of_ble_eq_true rfl⟩ rfl dX3_init_7 ?_
  obtain ⟨hk_1, hf⟩ := xifn hf
  refine th_putRF 2 7 xtX3 rfl hk_1 rfl ⟨by decide, by decide, rfl⟩ rfl (nar_qa _ _) (fit_qa _ _) (wl2 (i := 140) rfl rfl) rfl rfl rfl dX3_init_9 ?_
  refine aw_qload_n 0 dX3_init_12 rfl ?_
  refine aw_iconst (0 : Int32) dX3_init_13 (by decide) ?_
  refine th_putI 2 8 xtX3 rfl hk_1 rfl ⟨by decide, by decide, rfl⟩ rfl rfl rfl (wl2 (i := 141) rfl rfl) rfl dX3_init_14 ?_
  refine aw_qload_n 0 dX3_init_17 rfl ?_
  refine aw_iload_n 1 dX3_init_18 rfl ?_
  refine th_putIF 2 0 xtX3 rfl hk_1 rfl ⟨by decide, by decide, rfl⟩ rfl rfl rfl (wl2 (i := 126) rfl rfl) rfl rfl rfl dX3_init_19 ?_
  refine aw_qload_n 0 dX3_init_22 rfl ?_
  refine aw_iload_n 2 dX3_init_23 rfl ?_
  refine th_putIF 2 1 xtX3 rfl hk_1 rfl ⟨by decide, by decide, rfl⟩ rfl rfl rfl (wl2 (i := 128) rfl rfl) rfl rfl rfl dX3_init_24 ?_
  refine aw_qload_n 0 dX3_init_27 rfl ?_
  refine aw_iload_n 3 dX3_init_28 rfl ?_
  refine th_putIF 2 2 xtX3 rfl hk_1 rfl ⟨by decide, by decide, rfl⟩ rfl rfl rfl (wl2 (i := 130) rfl rfl) rfl rfl rfl dX3_init_29 ?_
  refine aw_qload_n 0 dX3_init_32 rfl ?_
  refine aw_iload 4 dX3_init_33 rfl ?_
  refine th_putIF 2 3 xtX3 rfl hk_1 rfl ⟨by decide, by decide, rfl⟩ rfl rfl rfl (wl2 (i := 133) rfl rfl) rfl rfl rfl dX3_init_35 ?_
  refine aw_qload_n 0 dX3_init_38 rfl ?_
  refine aw_qload 5 dX3_init_39 rfl ?_
  refine th_putRF 2 4 xtX3 rfl hk_1 rfl ⟨by decide, by decide, rfl⟩ rfl (nar_q _ _) (fit_q _ _) (wl2 (i := 135) rfl rfl) rfl rfl rfl dX3_init_41 ?_
  refine aw_qload_n 0 dX3_init_44 rfl ?_
  refine aw_qload 6 dX3_init_45 rfl ?_
  refine th_putRF 2 5 xtX3 rfl hk_1 rfl ⟨by decide, by decide, rfl⟩ rfl (nar_q _ _) (fit_q _ _) (wl2 (i := 136) rfl rfl) rfl rfl rfl dX3_init_47 ?_
  refine aw_qload_n 0 dX3_init_50 rfl ?_
  refine aw_iload_n 3 dX3_init_51 rfl ?_
  refine aw_bipush (10 : Int32) dX3_init_52 (by decide) ?_
  refine aw_irem dX3_init_54 (by decide) ?_
  obtain ⟨q2, hq2, hf⟩ := xbind hf
  refine aw_callS [.int (a3 - a3 / (10 : Int32) * (10 : Int32))] 1 (ctX4_beginning hl _ _ hq2) ⟨wl2 (i := 52) rfl rfl, ciX4_beginning⟩ (wl2 (i := 53) rfl rfl) dX3_init_55 rfl rfl (by simp [cat_q, cat_i, cat_l, cat_r]) ⟨Nat.le_of_ble_eq_true rfl, Nat.le_of_ble_eq_true rfl⟩ ⟨Nat.le_of_ble_eq_true rfl, Nat.le_of_ble_eq_true rfl⟩ ?_
  obtain ⟨hk_3, hf⟩ := xifn hf
  refine th_putR 2 6 xtX3 rfl hk_3 rfl ⟨by decide, by decide, rfl⟩ rfl (nar_q _ _) (fit_q _ _) (wl2 (i := 137) rfl rfl) rfl dX3_init_58 ?_
  refine aw_qload_n 0 dX3_init_61 rfl ?_
  refine aw_qload_n 0 dX3_init_62 rfl ?_
  refine th_getR 2 6 inX3 rfl hk_3 rfl ⟨by decide, by decide, rfl⟩ (wl2 (i := 137) rfl rfl) dX3_init_63 ?_
  obtain ⟨p4, hp4, hf⟩ := xbind hf
  obtain ⟨hk_5, hf⟩ := xifn hf
  obtain ⟨q6, hq6, hf⟩ := xbind hf
  refine aw_callV 3 (t_R (s_R q2.2 t 6 q2.1) t 6) [] 0 hp4 (thC_ob (h := (s_R q2.2 t 6 q2.1)) hk_5 (by decide)) rfl rfl (ctX4_stones hl _ _ hq6) ⟨wl2 (i := 89) rfl rfl, ciX4_stones⟩ (wl2 (i := 90) rfl rfl) (wl2 (i := 91) rfl rfl) dX3_init_66 rfl rfl (by simp [cat_q, cat_i, cat_l, cat_r]) ⟨Nat.le_of_ble_eq_true rfl, Nat.le_of_ble_eq_true rfl⟩ ⟨Nat.le_of_ble_eq_true rfl, Nat.le_of_ble_eq_true rfl⟩ ?_
  obtain ⟨q7, hq7, hf⟩ := xbind hf
  refine aw_callV 2 (some t) [.long q6] 1 rfl (thC_ob (h := (s_R q2.2 t 6 q2.1)) hk_3 (by decide)) rfl rfl (ctX3_keepLiberties hl _ _ _ hq7) ⟨wl2 (i := 93) rfl rfl, ciX3_keepLiberties⟩ (wl2 (i := 95) rfl rfl) (wl0 (i := 6) rfl rfl) dX3_init_69 rfl rfl (Nat.le_of_ble_eq_true rfl) ⟨Nat.le_of_ble_eq_true rfl, Nat.le_of_ble_eq_true rfl⟩ ⟨Nat.le_of_ble_eq_true rfl, Nat.le_of_ble_eq_true rfl⟩ ?_
  cases hf
  exact aw_vret dX3_init_72 rfl rfl rfl ⟨Nat.le_of_ble_eq_true rfl, Nat.le_of_ble_eq_true rfl⟩
abbrev MX2_begin : xM := (RX2, cX2_begin, 6, (some .int), "begin")
abbrev rmX2_begin : Room := { frames := 5, cells := 3, slots := 65, locals := 127 }
theorem ciX2_begin : Cond.code yX2_begin cX2_begin 6 (some .int) ∈ wt ∧ Cond.initialized yX2_begin.cls ∈ wt ∧ (yX2_begin.cls ≠ "java/lang/invoke/MethodHandle" ∧ yX2_begin.cls ≠ "java/lang/invoke/VarHandle" ∧ (parseMethodDescriptor yX2_begin.desc).map (fun d => d.parameters.length) = some 4) := ⟨wl2 (i := 38) rfl rfl, wl1 (i := 2) rfl rfl, by decide +kernel, by decide +kernel, by decide +kernel⟩
def fX2_begin (h : TH) (t : Nat) (a1 : Int32) (a2 : Int32) (a3 : Option Nat) (a4 : Option Nat) : Option (Int32 × TH) :=
  (if t_kd h t = 2 then (fX2_isBusy h t a1).bind fun q2 => (if q2 = false then (fX2_isBusy h t a2).bind fun q4 => (if q4 = false then (if (t_I h t 3) < 0 then some ((-1 : Int32), h) else (t_R h t 2).bind fun p7 => (if t_kd h p7 = 12 then (if (t_I h t 3) < (nI (t_ln h p7)) then (fX2_pairing h t a1 a2 (t_I h t 5)).bind fun q10 => (if t_kd (s_N h 3 0) t = 2 then (fX3_init (s_N h 3 0) (t_sz h) a1 a2 q10 (t_I (s_N h 3 0) t 5) a3 a4).bind fun q12 => (if t_kd q12 p7 = 12 then (if xin (t_I h t 3) (t_ln q12 p7) = true then (if ((some (t_sz h))).all (fun b => t_kd q12 b == 3) = true then (if t_kd (s_R q12 p7 (t_I h t 3).toNatClampNeg (some (t_sz h))) t = 2 then (some (s_I (s_R q12 p7 (t_I h t 3).toNatClampNeg (some (t_sz h))) t 3 ((t_I (s_R q12 p7 (t_I h t 3).toNatClampNeg (some (t_sz h))) t 3) + (1 : Int32)))).bind fun W17 => some ((t_I (s_R q12 p7 (t_I h t 3).toNatClampNeg (some (t_sz h))) t 3), W17) else none) else none) else none) else none) else none) else some ((-1 : Int32), h)) else none)) else some ((-1 : Int32), h)) else some ((-1 : Int32), h)) else none)
set_option maxHeartbeats 4000000 in
set_option maxRecDepth 100000 in
theorem ctX2_begin {l : Launch} {g : xG} (hl : l.stackTraces = false) {r : Int32 × TH} (h : TH) (t : Nat) (a1 : Int32) (a2 : Int32) (a3 : Option Nat) (a4 : Option Nat) (hf : fX2_begin h t a1 a2 a3 a4 = some r) : CT yX2_begin MX2_begin rmX2_begin l g [va_rf (some t), .int a1, .int a2, va_rf a3, va_rf a4] (thE g h) (.inl (some (.int r.1))) (thE g r.2) := by
  rw [fX2_begin] at hf
  refine CT.of (lv0 := [(0, va_rf (some t)), (1, .int a1), (2, .int a2), (3, va_rf a3), (4, va_rf a4)]) (by decide +kernel) rfl rfl (by simp [lg_sl, cat_q, cat_i, cat_l, cat_r]) (by simp [lv_args, cat_q, cat_i, cat_l, cat_r]) hl ?_
  refine aw_qload_n 0 dX2_begin_0 rfl ?_
  refine aw_iload_n 1 dX2_begin_1 rfl ?_
  obtain ⟨hk_1, hf⟩ := xifn hf
  obtain ⟨q2, hq2, hf⟩ := xbind hf
  refine aw_callV 1 (some t) [.int a1] 1 rfl (thC_ob (h := h) hk_1 (by decide)) rfl rfl (ctX2_isBusy hl _ _ _ hq2) ⟨wl2 (i := 39) rfl rfl, ciX2_isBusy⟩ (wl2 (i := 41) rfl rfl) (wl0 (i := 5) rfl rfl) dX2_begin_2 rfl rfl (Nat.le_of_ble_eq_true rfl) ⟨Nat.le_of_ble_eq_true rfl, Nat.le_of_ble_eq_true rfl⟩ ⟨Nat.le_of_ble_eq_true rfl, Nat.le_of_ble_eq_true rfl⟩ ?_
  refine aw_ifb_ne 35 dX2_begin_5 (by decide) (fun c3 => ?_) (fun c3 => ?_)
  · rw [if_neg c3] at hf
    refine aw_iconst (-1 : Int32) dX2_begin_35 (by decide) ?_
    cases hf
    exact aw_iret dX2_begin_36 rfl rfl rfl ⟨Nat.le_of_ble_eq_true rfl, Nat.le_of_ble_eq_true rfl⟩
  · rw [if_pos c3] at hf
    refine aw_qload_n 0 dX2_begin_8 rfl ?_
    refine aw_iload_n 2 dX2_begin_9 rfl ?_
    obtain ⟨q4, hq4, hf⟩ := xbind hf
    refine aw_callV 1 (some t) [.int a2] 1 rfl (thC_ob (h := h) hk_1 (by decide)) rfl rfl (ctX2_isBusy hl _ _ _ hq4) ⟨wl2 (i := 39) rfl rfl, ciX2_isBusy⟩ (wl2 (i := 41) rfl rfl) (wl0 (i := 5) rfl rfl) dX2_begin_10 rfl rfl (Nat.le_of_ble_eq_true rfl) ⟨Nat.le_of_ble_eq_true rfl, Nat.le_of_ble_eq_true rfl⟩ ⟨Nat.le_of_ble_eq_true rfl, Nat.le_of_ble_eq_true rfl⟩ ?_
    refine aw_ifb_ne 35 dX2_begin_13 (by decide) (fun c5 => ?_) (fun c5 => ?_)
    · rw [if_neg c5] at hf
      refine aw_iconst (-1 : Int32) dX2_begin_35 (by decide) ?_
      cases hf
      exact aw_iret dX2_begin_36 rfl rfl rfl ⟨Nat.le_of_ble_eq_true rfl, Nat.le_of_ble_eq_true rfl⟩
    · rw [if_pos c5] at hf
      refine aw_qload_n 0 dX2_begin_16 rfl ?_
      refine th_getI 1 3 inX2 rfl hk_1 rfl ⟨by decide, by decide, rfl⟩ (wl1 (i := 37) rfl rfl) dX2_begin_17 ?_
      refine aw_if_lt 35 dX2_begin_20 (by decide) (fun c6 => ?_) (fun c6 => ?_)
      · rw [if_pos c6] at hf
        refine aw_iconst (-1 : Int32) dX2_begin_35 (by decide) ?_
        cases hf
        exact aw_iret dX2_begin_36 rfl rfl rfl ⟨Nat.le_of_ble_eq_true rfl, Nat.le_of_ble_eq_true rfl⟩
      · rw [if_neg c6] at hf
        refine aw_qload_n 0 dX2_begin_23 rfl ?_
        refine th_getI 1 3 inX2 rfl hk_1 rfl ⟨by decide, by decide, rfl⟩ (wl1 (i := 37) rfl rfl) dX2_begin_24 ?_
        refine aw_qload_n 0 dX2_begin_27 rfl ?_
        refine th_getR 1 2 inX2 rfl hk_1 rfl ⟨by decide, by decide, rfl⟩ (wl1 (i := 36) rfl rfl) dX2_begin_28 ?_
        obtain ⟨p7, hp7, hf⟩ := xbind hf
        obtain ⟨hk_8, hf⟩ := xifn hf
        refine th_alenM hp7 hk_8 dX2_begin_31 ?_
        refine aw_icmp_lt 37 dX2_begin_32 (by decide) (fun c9 => ?_) (fun c9 => ?_)
        · rw [if_pos c9] at hf
          refine aw_qload_n 0 dX2_begin_37 rfl ?_
          refine aw_iload_n 1 dX2_begin_38 rfl ?_
          refine aw_iload_n 2 dX2_begin_39 rfl ?_
          refine aw_qload_n 0 dX2_begin_40 rfl ?_
          refine th_getI 1 5 inX2 rfl hk_1 rfl ⟨by decide, by decide, rfl⟩ (wl1 (i := 40) rfl rfl) dX2_begin_41 ?_
          obtain ⟨q10, hq10, hf⟩ := xbind hf
          refine aw_callV 1 (some t) [.int a1, .int a2, .int (t_I h t 5)] 3 rfl (thC_ob (h := h) hk_1 (by decide)) rfl rfl (ctX2_pairing hl _ _ _ _ _ hq10) ⟨wl1 (i := 100) rfl rfl, ciX2_pairing⟩ (wl1 (i := 102) rfl rfl) (wl0 (i := 2) rfl rfl) dX2_begin_44 rfl rfl (Nat.le_of_ble_eq_true rfl) ⟨Nat.le_of_ble_eq_true rfl, Nat.le_of_ble_eq_true rfl⟩ ⟨Nat.le_of_ble_eq_true rfl, Nat.le_of_ble_eq_true rfl⟩ ?_
          refine aw_istore [(5, .int q10), (0, va_rf (some t)), (1, .int a1), (2, .int a2), (3, va_rf a3), (4, va_rf a4)] dX2_begin_47 (by decide) (by simp [cat_q, cat_i, cat_l, cat_r]) ?_
          refine aw_qload_n 1 dX2_begin_49 rfl ?_
          refine th_getR 1 2 inX2 rfl hk_1 rfl ⟨by decide, by decide, rfl⟩ (wl1 (i := 36) rfl rfl) dX2_begin_50 ?_
          refine aw_qload_n 1 dX2_begin_53 rfl ?_
          refine th_getI 1 3 inX2 rfl hk_1 rfl ⟨by decide, by decide, rfl⟩ (wl1 (i := 37) rfl rfl) dX2_begin_54 ?_
          refine th_new 2 xtX3 rfl (by decide) (wl1 (i := 32) rfl rfl) (wl2 (i := 47) rfl rfl) (wl1 (i := 14) rfl rfl) (by decide) ⟨Nat.le_of_ble_eq_true rfl, Nat.le_of_ble_eq_true rfl⟩ dX2_begin_57 ?_
          refine aw_dup dX2_begin_60 (cat_q _) ?_
          refine aw_iload_n 2 dX2_begin_61 rfl ?_
          refine aw_iload_n 3 dX2_begin_62 rfl ?_
          refine aw_iload 0 dX2_begin_63 rfl ?_
          refine aw_qload_n 1 dX2_begin_65 rfl ?_
          obtain ⟨hk_11, hf⟩ := xifn hf
          refine th_getI 1 5 inX2 rfl hk_11 rfl ⟨by decide, by decide, rfl⟩ (wl1 (i := 40) rfl rfl) dX2_begin_66 ?_
          refine aw_qload_n 4 dX2_begin_69 rfl ?_
          refine aw_qload 5 dX2_begin_70 rfl ?_
          obtain ⟨q12, hq12, hf⟩ := xbind hf
          refine aw_callI _ [.int a1, .int a2, .int q10, .int (t_I (s_N h 3 0) t 5), va_rf a3, va_rf a4] 6 rfl rfl (ctX3_init hl _ _ _ _ _ _ _ _ hq12) ⟨wl2 (i := 48) rfl rfl, ciX3_init⟩ (wl2 (i := 49) rfl rfl) dX2_begin_72 rfl rfl (by simp [cat_q, cat_i, cat_l, cat_r]) ⟨Nat.le_of_ble_eq_true rfl, Nat.le_of_ble_eq_true rfl⟩ ⟨Nat.le_of_ble_eq_true rfl, Nat.le_of_ble_eq_true rfl⟩ ?_
          obtain ⟨hk_13, hf⟩ := xifn hf
          obtain ⟨hi14, hf⟩ := xifn hf
          obtain ⟨hv15, hf⟩ := xifn hf
          refine th_aastM hp7 hk_13 (xin_v hi14) (xall hv15) dX2_begin_75 ?_
          refine aw_qload_n 1 dX2_begin_76 rfl ?_
          refine aw_dup dX2_begin_77 rfl ?_
          obtain ⟨hk_16, hf⟩ := xifn hf
          refine th_getI 1 3 inX2 rfl hk_16 rfl ⟨by decide, by decide, rfl⟩ (wl1 (i := 37) rfl rfl) dX2_begin_78 ?_
          refine aw_dup_x1 dX2_begin_81 rfl rfl ?_
          refine aw_iconst (1 : Int32) dX2_begin_82 (by decide) ?_
          refine aw_iadd dX2_begin_83 ?_
          obtain ⟨W17, hW17, hf⟩ := xlet hf
          refine th_putI 1 3 xtX2 rfl hk_16 rfl ⟨by decide, by decide, rfl⟩ rfl rfl rfl (wl1 (i := 37) rfl rfl) rfl dX2_begin_84 ?_
          rw [hW17]
          cases hf
          exact aw_iret dX2_begin_87 rfl rfl rfl ⟨Nat.le_of_ble_eq_true rfl, Nat.le_of_ble_eq_true rfl⟩
        · rw [if_neg c9] at hf
          refine aw_iconst (-1 : Int32) dX2_begin_35 (by decide) ?_
          cases hf
          exact aw_iret dX2_begin_36 rfl rfl rfl ⟨Nat.le_of_ble_eq_true rfl, Nat.le_of_ble_eq_true rfl⟩
abbrev MX2_end : xM := (RX2, cX2_end, 3, none, "end")
abbrev rmX2_end : Room := { frames := 0, cells := 0, slots := 0, locals := 0 }
theorem ciX2_end : Cond.code yX2_end cX2_end 3 none ∈ wt ∧ Cond.initialized yX2_end.cls ∈ wt ∧ (yX2_end.cls ≠ "java/lang/invoke/MethodHandle" ∧ yX2_end.cls ≠ "java/lang/invoke/VarHandle" ∧ (parseMethodDescriptor yX2_end.desc).map (fun d => d.parameters.length) = some 2) := ⟨wl2 (i := 225) rfl rfl, wl1 (i := 2) rfl rfl, by decide +kernel, by decide +kernel, by decide +kernel⟩
def fX2_end (h : TH) (t : Nat) (a1 : Option Nat) (a2 : Int32) : Option (TH) :=
  a1.bind fun p1 => (if t_kd h p1 = 3 then (if t_kd (s_I h p1 8 a2) t = 2 then (if (t_I (s_I h p1 8 a2) t 5) < 0 then some (s_I h p1 8 a2) else (t_R (s_I h p1 8 a2) t 4).bind fun p5 => (if t_kd (s_I h p1 8 a2) p5 = 12 then (if (nI (t_ln (s_I h p1 8 a2) p5)) ≤ (t_I (s_I h p1 8 a2) t 5) then some (s_I h p1 8 a2) else (if xin (t_I (s_I h p1 8 a2) t 5) (t_ln (s_I h p1 8 a2) p5) = true then (if (a1).all (fun b => t_kd (s_I h p1 8 a2) b == 3) = true then (some (s_I (s_R (s_I h p1 8 a2) p5 (t_I (s_I h p1 8 a2) t 5).toNatClampNeg a1) t 5 ((t_I (s_R (s_I h p1 8 a2) p5 (t_I (s_I h p1 8 a2) t 5).toNatClampNeg a1) t 5) + (1 : Int32)))).bind fun W10 => some W10 else none) else none)) else none)) else none) else none)
set_option maxHeartbeats 4000000 in
set_option maxRecDepth 100000 in
theorem ctX2_end {l : Launch} {g : xG} (hl : l.stackTraces = false) {r : TH} (h : TH) (t : Nat) (a1 : Option Nat) (a2 : Int32) (hf : fX2_end h t a1 a2 = some r) : CT yX2_end MX2_end rmX2_end l g [va_rf (some t), va_rf a1, .int a2] (thE g h) (.inl none) (thE g r) := by
  rw [fX2_end] at hf
  refine CT.of (lv0 := [(0, va_rf (some t)), (1, va_rf a1), (2, .int a2)]) (by decide +kernel) rfl rfl (by simp [lg_sl, cat_q, cat_i, cat_l, cat_r]) (by simp [lv_args, cat_q, cat_i, cat_l, cat_r]) hl ?_
  refine aw_qload_n 1 dX2_end_0 rfl ?_
  refine aw_iload_n 2 dX2_end_1 rfl ?_
  obtain ⟨p1, hp1, hf⟩ := xbind hf
  obtain ⟨hk_2, hf⟩ := xifn hf
  refine th_putIN "AtariGarden" 2 8 xtX3 hp1 hk_2 rfl ⟨by decide, by decide, rfl⟩ rfl rfl rfl (wm2 (i := 142) rfl) rfl dX2_end_2 ?_
  refine aw_qload_n 0 dX2_end_5 rfl ?_
  obtain ⟨hk_3, hf⟩ := xifn hf
  refine th_getI 1 5 inX2 rfl hk_3 rfl ⟨by decide, by decide, rfl⟩ (wl1 (i := 40) rfl rfl) dX2_end_6 ?_
  refine aw_if_lt 44 dX2_end_9 (by decide) (fun c4 => ?_) (fun c4 => ?_)
  · rw [if_pos c4] at hf
    cases hf
    exact aw_vret dX2_end_44 rfl rfl rfl ⟨Nat.le_of_ble_eq_true rfl, Nat.le_of_ble_eq_true rfl⟩
  · rw [if_neg c4] at hf
    refine aw_qload_n 0 dX2_end_12 rfl ?_
    refine th_getI 1 5 inX2 rfl hk_3 rfl ⟨by decide, by decide, rfl⟩ (wl1 (i := 40) rfl rfl) dX2_end_13 ?_
    refine aw_qload_n 0 dX2_end_16 rfl ?_
    refine th_getR 1 4 inX2 rfl hk_3 rfl ⟨by decide, by decide, rfl⟩ (wl1 (i := 38) rfl rfl) dX2_end_17 ?_
    obtain ⟨p5, hp5, hf⟩ := xbind hf
    obtain ⟨hk_6, hf⟩ := xifn hf
    refine th_alenM hp5 hk_6 dX2_end_20 ?_
    refine aw_icmp_ge 44 dX2_end_21 (by decide) (fun c7 => ?_) (fun c7 => ?_)
    · rw [if_pos c7] at hf
      cases hf
      exact aw_vret dX2_end_44 rfl rfl rfl ⟨Nat.le_of_ble_eq_true rfl, Nat.le_of_ble_eq_true rfl⟩
    · rw [if_neg c7] at hf
      refine aw_qload_n 0 dX2_end_24 rfl ?_
      refine th_getR 1 4 inX2 rfl hk_3 rfl ⟨by decide, by decide, rfl⟩ (wl1 (i := 38) rfl rfl) dX2_end_25 ?_
      refine aw_qload_n 0 dX2_end_28 rfl ?_
      refine th_getI 1 5 inX2 rfl hk_3 rfl ⟨by decide, by decide, rfl⟩ (wl1 (i := 40) rfl rfl) dX2_end_29 ?_
      refine aw_qload_n 1 dX2_end_32 rfl ?_
      obtain ⟨hi8, hf⟩ := xifn hf
      obtain ⟨hv9, hf⟩ := xifn hf
      refine th_aastM hp5 hk_6 (xin_v hi8) (xall hv9) dX2_end_33 ?_
      refine aw_qload_n 0 dX2_end_34 rfl ?_
      refine aw_dup dX2_end_35 rfl ?_
      refine th_getI 1 5 inX2 rfl hk_3 rfl ⟨by decide, by decide, rfl⟩ (wl1 (i := 40) rfl rfl) dX2_end_36 ?_
      refine aw_iconst (1 : Int32) dX2_end_39 (by decide) ?_
      refine aw_iadd dX2_end_40 ?_
      obtain ⟨W10, hW10, hf⟩ := xlet hf
      refine th_putI 1 5 xtX2 rfl hk_3 rfl ⟨by decide, by decide, rfl⟩ rfl rfl rfl (wl1 (i := 40) rfl rfl) rfl dX2_end_41 ?_
      rw [hW10]
      cases hf
      exact aw_vret dX2_end_44 rfl rfl rfl ⟨Nat.le_of_ble_eq_true rfl, Nat.le_of_ble_eq_true rfl⟩
abbrev MX2_enrol : xM := (RX2, cX2_enrol, 2, (some .int), "enrol")
abbrev rmX2_enrol : Room := { frames := 0, cells := 0, slots := 0, locals := 0 }
theorem ciX2_enrol : Cond.code yX2_enrol cX2_enrol 2 (some .int) ∈ wt ∧ Cond.initialized yX2_enrol.cls ∈ wt ∧ (yX2_enrol.cls ≠ "java/lang/invoke/MethodHandle" ∧ yX2_enrol.cls ≠ "java/lang/invoke/VarHandle" ∧ (parseMethodDescriptor yX2_enrol.desc).map (fun d => d.parameters.length) = some 1) := ⟨wl1 (i := 213) rfl rfl, wl1 (i := 2) rfl rfl, by decide +kernel, by decide +kernel, by decide +kernel⟩
def fX2_enrol (h : TH) (t : Nat) (a1 : Int32) : Option (Int32 × TH) :=
  (if t_kd h t = 2 then (if (t_I h t 1) < 0 then some ((-1 : Int32), h) else (t_R h t 0).bind fun p3 => (if t_kd h p3 = 9 then (if (t_I h t 1) < (nI (t_ln h p3)) then (if xin (t_I h t 1) (t_ln h p3) = true then some ((t_I (s_I h p3 (t_I h t 1).toNatClampNeg a1) t 1), (s_I (s_I h p3 (t_I h t 1).toNatClampNeg a1) t 1 ((t_I (s_I h p3 (t_I h t 1).toNatClampNeg a1) t 1) + (1 : Int32)))) else none) else some ((-1 : Int32), h)) else none)) else none)
set_option maxHeartbeats 4000000 in
set_option maxRecDepth 100000 in
theorem ctX2_enrol {l : Launch} {g : xG} (hl : l.stackTraces = false) {r : Int32 × TH} (h : TH) (t : Nat) (a1 : Int32) (hf : fX2_enrol h t a1 = some r) : CT yX2_enrol MX2_enrol rmX2_enrol l g [va_rf (some t), .int a1] (thE g h) (.inl (some (.int r.1))) (thE g r.2) := by
  rw [fX2_enrol] at hf
  refine CT.of (lv0 := [(0, va_rf (some t)), (1, .int a1)]) (by decide +kernel) rfl rfl (by simp [lg_sl, cat_q, cat_i, cat_l, cat_r]) (by simp [lv_args, cat_q, cat_i, cat_l, cat_r]) hl ?_
  refine aw_qload_n 0 dX2_enrol_0 rfl ?_
  obtain ⟨hk_1, hf⟩ := xifn hf
  refine th_getI 1 1 inX2 rfl hk_1 rfl ⟨by decide, by decide, rfl⟩ (wl1 (i := 35) rfl rfl) dX2_enrol_1 ?_
  refine aw_if_lt 19 dX2_enrol_4 (by decide) (fun c2 => ?_) (fun c2 => ?_)
  · rw [if_pos c2] at hf
    refine aw_iconst (-1 : Int32) dX2_enrol_19 (by decide) ?_
    cases hf
    exact aw_iret dX2_enrol_20 rfl rfl rfl ⟨Nat.le_of_ble_eq_true rfl, Nat.le_of_ble_eq_true rfl⟩
  · rw [if_neg c2] at hf
    refine aw_qload_n 0 dX2_enrol_7 rfl ?_
    refine th_getI 1 1 inX2 rfl hk_1 rfl ⟨by decide, by decide, rfl⟩ (wl1 (i := 35) rfl rfl) dX2_enrol_8 ?_
    refine aw_qload_n 0 dX2_enrol_11 rfl ?_
    refine th_getR 1 0 inX2 rfl hk_1 rfl ⟨by decide, by decide, rfl⟩ (wl1 (i := 34) rfl rfl) dX2_enrol_12 ?_
    obtain ⟨p3, hp3, hf⟩ := xbind hf
    obtain ⟨hk_4, hf⟩ := xifn hf
    refine th_alenI hp3 hk_4 dX2_enrol_15 ?_
    refine aw_icmp_lt 21 dX2_enrol_16 (by decide) (fun c5 => ?_) (fun c5 => ?_)
    · rw [if_pos c5] at hf
      refine aw_qload_n 0 dX2_enrol_21 rfl ?_
      refine th_getR 1 0 inX2 rfl hk_1 rfl ⟨by decide, by decide, rfl⟩ (wl1 (i := 34) rfl rfl) dX2_enrol_22 ?_
      refine aw_qload_n 0 dX2_enrol_25 rfl ?_
      refine th_getI 1 1 inX2 rfl hk_1 rfl ⟨by decide, by decide, rfl⟩ (wl1 (i := 35) rfl rfl) dX2_enrol_26 ?_
      refine aw_iload_n 1 dX2_enrol_29 rfl ?_
      obtain ⟨hi6, hf⟩ := xifn hf
      refine th_iast hp3 hk_4 (xin_v hi6) dX2_enrol_30 ?_
      refine aw_qload_n 0 dX2_enrol_31 rfl ?_
      refine aw_dup dX2_enrol_32 rfl ?_
      refine th_getI 1 1 inX2 rfl hk_1 rfl ⟨by decide, by decide, rfl⟩ (wl1 (i := 35) rfl rfl) dX2_enrol_33 ?_
      refine aw_dup_x1 dX2_enrol_36 rfl rfl ?_
      refine aw_iconst (1 : Int32) dX2_enrol_37 (by decide) ?_
      refine aw_iadd dX2_enrol_38 ?_
      refine th_putI 1 1 xtX2 rfl hk_1 rfl ⟨by decide, by decide, rfl⟩ rfl rfl rfl (wl1 (i := 35) rfl rfl) rfl dX2_enrol_39 ?_
      cases hf
      exact aw_iret dX2_enrol_42 rfl rfl rfl ⟨Nat.le_of_ble_eq_true rfl, Nat.le_of_ble_eq_true rfl⟩
    · rw [if_neg c5] at hf
      refine aw_iconst (-1 : Int32) dX2_enrol_19 (by decide) ?_
      cases hf
      exact aw_iret dX2_enrol_20 rfl rfl rfl ⟨Nat.le_of_ble_eq_true rfl, Nat.le_of_ble_eq_true rfl⟩
abbrev MX2_hasPlayer : xM := (RX2, cX2_hasPlayer, 2, (some .boolean), "hasPlayer")
abbrev rmX2_hasPlayer : Room := { frames := 0, cells := 0, slots := 0, locals := 0 }
theorem ciX2_hasPlayer : Cond.code yX2_hasPlayer cX2_hasPlayer 2 (some .boolean) ∈ wt ∧ Cond.initialized yX2_hasPlayer.cls ∈ wt ∧ (yX2_hasPlayer.cls ≠ "java/lang/invoke/MethodHandle" ∧ yX2_hasPlayer.cls ≠ "java/lang/invoke/VarHandle" ∧ (parseMethodDescriptor yX2_hasPlayer.desc).map (fun d => d.parameters.length) = some 1) := ⟨wl2 (i := 1) rfl rfl, wl1 (i := 2) rfl rfl, by decide +kernel, by decide +kernel, by decide +kernel⟩
def fX2_hasPlayer (h : TH) (t : Nat) (a1 : Int32) : Option (Bool) :=
  (if a1 < 0 then some false else (if t_kd h t = 2 then (if (t_I h t 1) ≤ a1 then some false else some true) else none))
set_option maxHeartbeats 4000000 in
set_option maxRecDepth 100000 in
theorem ctX2_hasPlayer {l : Launch} {g : xG} (hl : l.stackTraces = false) {r : Bool} (h : TH) (t : Nat) (a1 : Int32) (hf : fX2_hasPlayer h t a1 = some r) : CT yX2_hasPlayer MX2_hasPlayer rmX2_hasPlayer l g [va_rf (some t), .int a1] (thE g h) (.inl (some (.int (bi r)))) (thE g h) := by
  rw [fX2_hasPlayer] at hf
  refine CT.of (lv0 := [(0, va_rf (some t)), (1, .int a1)]) (by decide +kernel) rfl rfl (by simp [lg_sl, cat_q, cat_i, cat_l, cat_r]) (by simp [lv_args, cat_q, cat_i, cat_l, cat_r]) hl ?_
  refine aw_iload_n 1 dX2_hasPlayer_0 rfl ?_
  refine aw_if_lt 16 dX2_hasPlayer_1 (by decide) (fun c1 => ?_) (fun c1 => ?_)
  · rw [if_pos c1] at hf
    refine aw_iconst (0 : Int32) dX2_hasPlayer_16 (by decide) ?_
    cases hf
    exact aw_zret dX2_hasPlayer_17 rfl rfl rfl rfl ⟨Nat.le_of_ble_eq_true rfl, Nat.le_of_ble_eq_true rfl⟩
  · rw [if_neg c1] at hf
    refine aw_iload_n 1 dX2_hasPlayer_4 rfl ?_
    refine aw_qload_n 0 dX2_hasPlayer_5 rfl ?_
    obtain ⟨hk_2, hf⟩ := xifn hf
    refine th_getI 1 1 inX2 rfl hk_2 rfl ⟨by decide, by decide, rfl⟩ (wl1 (i := 35) rfl rfl) dX2_hasPlayer_6 ?_
    refine aw_icmp_ge 16 dX2_hasPlayer_9 (by decide) (fun c3 => ?_) (fun c3 => ?_)
    · rw [if_pos c3] at hf
      refine aw_iconst (0 : Int32) dX2_hasPlayer_16 (by decide) ?_
      cases hf
      exact aw_zret dX2_hasPlayer_17 rfl rfl rfl rfl ⟨Nat.le_of_ble_eq_true rfl, Nat.le_of_ble_eq_true rfl⟩
    · rw [if_neg c3] at hf
      refine aw_iconst (1 : Int32) dX2_hasPlayer_12 (by decide) ?_
      refine aw_goto 17 dX2_hasPlayer_13 (by decide) ?_
      cases hf
      exact aw_zret dX2_hasPlayer_17 rfl rfl rfl rfl ⟨Nat.le_of_ble_eq_true rfl, Nat.le_of_ble_eq_true rfl⟩
abbrev MX2_init : xM := (RX2, cX2_init, 1, none, "<init>")
abbrev rmX2_init : Room := { frames := 1, cells := 3, slots := 40, locals := 20 }
theorem ciX2_init : Cond.code yX2_init cX2_init 1 none ∈ wt ∧ Cond.initialized yX2_init.cls ∈ wt ∧ (yX2_init.cls ≠ "java/lang/invoke/MethodHandle" ∧ yX2_init.cls ≠ "java/lang/invoke/VarHandle" ∧ (parseMethodDescriptor yX2_init.desc).map (fun d => d.parameters.length) = some 0) := ⟨wl1 (i := 30) rfl rfl, wl1 (i := 2) rfl rfl, by decide +kernel, by decide +kernel, by decide +kernel⟩
def fX2_init (h : TH) (t : Nat) : Option (TH) :=
  (if t_kd (s_N h 9 8) t = 2 then (if t_kd (s_N (s_R (s_N h 9 8) t 0 (some (t_sz h))) 12 16) t = 2 then (if t_kd (s_N (s_R (s_N (s_R (s_N h 9 8) t 0 (some (t_sz h))) 12 16) t 2 (some (t_sz (s_R (s_N h 9 8) t 0 (some (t_sz h)))))) 12 16) t = 2 then (some (s_R (s_N (s_R (s_N (s_R (s_N h 9 8) t 0 (some (t_sz h))) 12 16) t 2 (some (t_sz (s_R (s_N h 9 8) t 0 (some (t_sz h)))))) 12 16) t 4 (some (t_sz (s_R (s_N (s_R (s_N h 9 8) t 0 (some (t_sz h))) 12 16) t 2 (some (t_sz (s_R (s_N h 9 8) t 0 (some (t_sz h)))))))))).bind fun W4 => some W4 else none) else none) else none)
set_option maxHeartbeats 4000000 in
set_option maxRecDepth 100000 in
theorem ctX2_init {l : Launch} {g : xG} (hl : l.stackTraces = false) {r : TH} (h : TH) (t : Nat) (hf : fX2_init h t = some r) : CT yX2_init MX2_init rmX2_init l g [va_rf (some t)] (thE g h) (.inl none) (thE g r) := by
  rw [fX2_init] at hf
  refine CT.of (lv0 := [(0, va_rf (some t))]) (by decide +kernel) rfl rfl (by simp [lg_sl, cat_q, cat_i, cat_l, cat_r]) (by simp [lv_args, cat_q, cat_i, cat_l, cat_r]) hl ?_
  refine aw_qload_n 0 dX2_init_0 rfl ?_
  refine aw_objInit (r := (some t)) rfl (wl1 (i := 31) rfl rfl) dX2_init_1 (Nat.le_of_ble_eq_true rfl) ⟨Nat.le_of_ble_eq_true rfl, Nat.le_of_ble_eq_true rfl⟩ (wl1 (i := 24) rfl rfl) (wl1 (i := 25) rfl rfl) ?_
  refine aw_qload_n 0 dX2_init_4 rfl ?_
  refine aw_bipush (8 : Int32) dX2_init_5 (by decide) ?_
  refine th_newI 8 (wl1 (i := 54) rfl rfl) (by decide) (by decide) (by decide) ⟨Nat.le_of_ble_eq_true rfl, Nat.le_of_ble_eq_true rfl⟩ rfl dX2_init_7 ?_
  obtain ⟨hk_1, hf⟩ := xifn hf
  refine th_putRF 1 0 xtX2 rfl hk_1 rfl ⟨by decide, by decide, rfl⟩ rfl (nar_qa _ _) (fit_qa _ _) (wl1 (i := 34) rfl rfl) rfl rfl rfl dX2_init_9 ?_
  refine aw_qload_n 0 dX2_init_12 rfl ?_
  refine aw_bipush (16 : Int32) dX2_init_13 (by decide) ?_
  refine th_newM 16 (wl1 (i := 32) rfl rfl) (by decide) (by decide) (by decide) ⟨Nat.le_of_ble_eq_true rfl, Nat.le_of_ble_eq_true rfl⟩ dX2_init_15 ?_
  obtain ⟨hk_2, hf⟩ := xifn hf
  refine th_putRF 1 2 xtX2 rfl hk_2 rfl ⟨by decide, by decide, rfl⟩ rfl (nar_qa _ _) (fit_qa _ _) (wl1 (i := 36) rfl rfl) rfl rfl rfl dX2_init_18 ?_
  refine aw_qload_n 0 dX2_init_21 rfl ?_
  refine aw_bipush (16 : Int32) dX2_init_22 (by decide) ?_
  refine th_newM 16 (wl1 (i := 32) rfl rfl) (by decide) (by decide) (by decide) ⟨Nat.le_of_ble_eq_true rfl, Nat.le_of_ble_eq_true rfl⟩ dX2_init_24 ?_
  obtain ⟨hk_3, hf⟩ := xifn hf
  obtain ⟨W4, hW4, hf⟩ := xlet hf
  refine th_putRF 1 4 xtX2 rfl hk_3 rfl ⟨by decide, by decide, rfl⟩ rfl (nar_qa _ _) (fit_qa _ _) (wl1 (i := 38) rfl rfl) rfl rfl rfl dX2_init_27 ?_
  rw [hW4]
  cases hf
  exact aw_vret dX2_init_30 rfl rfl rfl ⟨Nat.le_of_ble_eq_true rfl, Nat.le_of_ble_eq_true rfl⟩
abbrev MX2_matchAt : xM := (RX2, cX2_matchAt, 2, (some (.object "AtariGarden$Match")), "matchAt")
abbrev rmX2_matchAt : Room := { frames := 0, cells := 0, slots := 0, locals := 0 }
theorem ciX2_matchAt : Cond.code yX2_matchAt cX2_matchAt 2 (some (.object "AtariGarden$Match")) ∈ wt ∧ Cond.initialized yX2_matchAt.cls ∈ wt ∧ (yX2_matchAt.cls ≠ "java/lang/invoke/MethodHandle" ∧ yX2_matchAt.cls ≠ "java/lang/invoke/VarHandle" ∧ (parseMethodDescriptor yX2_matchAt.desc).map (fun d => d.parameters.length) = some 1) := ⟨wl2 (i := 179) rfl rfl, wl1 (i := 2) rfl rfl, by decide +kernel, by decide +kernel, by decide +kernel⟩
def fX2_matchAt (h : TH) (t : Nat) (a1 : Int32) : Option (Option Nat) :=
  (if a1 < 0 then some none else (if t_kd h t = 2 then (t_R h t 2).bind fun p3 => (if t_kd h p3 = 12 then (if a1 < (nI (t_ln h p3)) then (if xin a1 (t_ln h p3) = true then some (t_R h p3 a1.toNatClampNeg) else none) else some none) else none) else none))
set_option maxHeartbeats 4000000 in
set_option maxRecDepth 100000 in
theorem ctX2_matchAt {l : Launch} {g : xG} (hl : l.stackTraces = false) {r : Option Nat} (h : TH) (t : Nat) (a1 : Int32) (hf : fX2_matchAt h t a1 = some r) : CT yX2_matchAt MX2_matchAt rmX2_matchAt l g [va_rf (some t), .int a1] (thE g h) (.inl (some (va_rf r))) (thE g h) := by
  rw [fX2_matchAt] at hf
  refine CT.of (lv0 := [(0, va_rf (some t)), (1, .int a1)]) (by decide +kernel) rfl rfl (by simp [lg_sl, cat_q, cat_i, cat_l, cat_r]) (by simp [lv_args, cat_q, cat_i, cat_l, cat_r]) hl ?_
  refine aw_iload_n 1 dX2_matchAt_0 rfl ?_
  refine aw_if_lt 13 dX2_matchAt_1 (by decide) (fun c1 => ?_) (fun c1 => ?_)
  · rw [if_pos c1] at hf
    refine aw_null dX2_matchAt_13 ?_
    refine aw_goto 23 dX2_matchAt_14 (by decide) ?_
    cases hf
    exact aw_aret "AtariGarden$Match" dX2_matchAt_23 rfl rfl rfl ⟨Nat.le_of_ble_eq_true rfl, Nat.le_of_ble_eq_true rfl⟩
  · rw [if_neg c1] at hf
    refine aw_iload_n 1 dX2_matchAt_4 rfl ?_
    refine aw_qload_n 0 dX2_matchAt_5 rfl ?_
    obtain ⟨hk_2, hf⟩ := xifn hf
    refine th_getR 1 2 inX2 rfl hk_2 rfl ⟨by decide, by decide, rfl⟩ (wl1 (i := 36) rfl rfl) dX2_matchAt_6 ?_
    obtain ⟨p3, hp3, hf⟩ := xbind hf
    obtain ⟨hk_4, hf⟩ := xifn hf
    refine th_alenM hp3 hk_4 dX2_matchAt_9 ?_
    refine aw_icmp_lt 17 dX2_matchAt_10 (by decide) (fun c5 => ?_) (fun c5 => ?_)
    · rw [if_pos c5] at hf
      refine aw_qload_n 0 dX2_matchAt_17 rfl ?_
      refine th_getR 1 2 inX2 rfl hk_2 rfl ⟨by decide, by decide, rfl⟩ (wl1 (i := 36) rfl rfl) dX2_matchAt_18 ?_
      refine aw_iload_n 1 dX2_matchAt_21 rfl ?_
      obtain ⟨hi6, hf⟩ := xifn hf
      refine th_aaldM hp3 hk_4 (xin_v hi6) dX2_matchAt_22 ?_
      cases hf
      exact aw_aret "AtariGarden$Match" dX2_matchAt_23 rfl rfl rfl ⟨Nat.le_of_ble_eq_true rfl, Nat.le_of_ble_eq_true rfl⟩
    · rw [if_neg c5] at hf
      refine aw_null dX2_matchAt_13 ?_
      refine aw_goto 23 dX2_matchAt_14 (by decide) ?_
      cases hf
      exact aw_aret "AtariGarden$Match" dX2_matchAt_23 rfl rfl rfl ⟨Nat.le_of_ble_eq_true rfl, Nat.le_of_ble_eq_true rfl⟩
