abbrev MX8_merge : xM := (RX8, cX8_merge, 6, (some .int), "merge")
abbrev rmX8_merge : Room := { frames := 9, cells := 125, slots := 750, locals := 426 }
theorem ciX8_merge : Cond.code yX8_merge cX8_merge 6 (some .int) ∈ wt ∧ Cond.initialized yX8_merge.cls ∈ wt ∧ (yX8_merge.cls ≠ "java/lang/invoke/MethodHandle" ∧ yX8_merge.cls ≠ "java/lang/invoke/VarHandle" ∧ (parseMethodDescriptor yX8_merge.desc).map (fun d => d.parameters.length) = some 2) := ⟨wl3 (i := 133) rfl rfl, wl1 (i := 1) rfl rfl, by decide +kernel, by decide +kernel, by decide +kernel⟩
def fX8_merge_27 (h : TH) (t : Nat) : Option ((Int32 × TH) ⊕ (String × TH)) :=
  some (.inr ("java/lang/IllegalArgumentException", h))
set_option maxHeartbeats 4000000 in
set_option maxRecDepth 100000 in
theorem wkX8_merge_27 {l : Launch} {g : xG} {x0 : xV} (hl : l.stackTraces = false) {r : (Int32 × TH) ⊕ (String × TH)} (h : TH) (t : Nat) (hf : fX8_merge_27 h t = some r) : AW MX8_merge rmX8_merge l g x0 (oI r) (thE g (hP r)) 2 12 (thE g h) 27 [] [] := by
  rw [fX8_merge_27] at hf
  cases hf
  exact aw_throw (M := MX8_merge) (pc := 27) (names := xRTE) rfl (by decide +kernel) xRTE_fit (wl1 (i := 142) rfl rfl) (wl1 (i := 11) rfl rfl) (wm3 (i := 138) rfl) xAt_54 xGd_54 dX8_merge_27 dX8_merge_30 dX8_merge_31 dX8_merge_33 dX8_merge_36 (Nat.le_of_ble_eq_true rfl) ⟨by decide, by decide⟩ ⟨Nat.le_of_ble_eq_true rfl, Nat.le_of_ble_eq_true rfl⟩
def fX8_merge (h : TH) (t : Nat) (a1 : Int32) (a2 : Int32) : Option ((Int32 × TH) ⊕ (String × TH)) :=
  (if t_kd h t = 7 then (fX8_twigOf h t a1).bind fun q2 => xcs q2 fun a_3 => (if t_kd a_3.2 t = 7 then (fX8_twigOf a_3.2 t a2).bind fun q6 => xcs q6 fun a_7 => (if a1 = a2 then fX8_merge_27 a_7.2 t else a_3.1.bind fun p10 => (if t_kd a_7.2 p10 = 6 then (fX7_beginsAs a_7.2 p10 a_7.1).bind fun q12 => (if q12 = false then fX8_merge_27 a_7.2 t else (if t_kd a_7.2 t = 7 then (t_R a_7.2 t 1).bind fun p15 => (if t_kd a_7.2 p15 = 5 then (fX6_graft a_7.2 p15 a_3.1 a_7.1).bind fun q17 => (if 0 ≤ q17.1 then some (.inl (q17.1, q17.2)) else some (.inr ("java/lang/IllegalStateException", q17.2))) else none) else none)) else none)) else none) else none)
set_option maxHeartbeats 4000000 in
set_option maxRecDepth 100000 in
theorem ctX8_merge {l : Launch} {g : xG} (hl : l.stackTraces = false) {r : (Int32 × TH) ⊕ (String × TH)} (h : TH) (t : Nat) (a1 : Int32) (a2 : Int32) (hf : fX8_merge h t a1 a2 = some r) : CT yX8_merge MX8_merge rmX8_merge l g [va_rf (some t), .int a1, .int a2] (thE g h) (oI r) (thE g (hP r)) := by
  rw [fX8_merge] at hf
  refine CT.of (lv0 := [(0, va_rf (some t)), (1, .int a1), (2, .int a2)]) (by decide +kernel) rfl rfl (by simp [lg_sl, cat_q, cat_i, cat_l, cat_r]) (by simp [lv_args, cat_q, cat_i, cat_l, cat_r]) hl ?_
  refine aw_qload_n 0 dX8_merge_0 rfl ?_
  refine aw_iload_n 1 dX8_merge_1 rfl ?_
  obtain ⟨hk_1, hf⟩ := xifn hf
  obtain ⟨q2, hq2, hf⟩ := xbind hf
  rcases q2 with a_3 | e_4
  rotate_left
  · cases hf
    exact aw_thrV (M := MX8_merge) (pc := 2) 6 (some t) [.int a1] 1 rfl (thC_ob (h := h) hk_1 (by decide)) rfl rfl (ctX8_twigOf hl _ _ _ hq2) ⟨wl3 (i := 97) rfl rfl, ciX8_twigOf⟩ (wl3 (i := 99) rfl rfl) (wl0 (i := 11) rfl rfl) dX8_merge_2 rfl rfl (Nat.le_of_ble_eq_true rfl) ⟨Nat.le_of_ble_eq_true rfl, Nat.le_of_ble_eq_true rfl⟩ ⟨Nat.le_of_ble_eq_true rfl, Nat.le_of_ble_eq_true rfl⟩
  have hf := xcs_l hf
  refine aw_callV 6 (some t) [.int a1] 1 rfl (thC_ob (h := h) hk_1 (by decide)) rfl rfl (ctX8_twigOf hl _ _ _ hq2) ⟨wl3 (i := 97) rfl rfl, ciX8_twigOf⟩ (wl3 (i := 99) rfl rfl) (wl0 (i := 11) rfl rfl) dX8_merge_2 rfl rfl (Nat.le_of_ble_eq_true rfl) ⟨Nat.le_of_ble_eq_true rfl, Nat.le_of_ble_eq_true rfl⟩ ⟨Nat.le_of_ble_eq_true rfl, Nat.le_of_ble_eq_true rfl⟩ ?_
  refine aw_qstore_n [(3, va_rf a_3.1), (0, va_rf (some t)), (1, .int a1), (2, .int a2)] dX8_merge_5 rfl (by decide) rfl ?_
  refine aw_qload_n 1 dX8_merge_6 rfl ?_
  refine aw_iload_n 3 dX8_merge_7 rfl ?_
  obtain ⟨hk_5, hf⟩ := xifn hf
  obtain ⟨q6, hq6, hf⟩ := xbind hf
  rcases q6 with a_7 | e_8
  rotate_left
  · cases hf
    exact aw_thrV (M := MX8_merge) (pc := 8) 6 (some t) [.int a2] 1 rfl (thC_ob (h := a_3.2) hk_5 (by decide)) rfl rfl (ctX8_twigOf hl _ _ _ hq6) ⟨wl3 (i := 97) rfl rfl, ciX8_twigOf⟩ (wl3 (i := 99) rfl rfl) (wl0 (i := 11) rfl rfl) dX8_merge_8 rfl rfl (Nat.le_of_ble_eq_true rfl) ⟨Nat.le_of_ble_eq_true rfl, Nat.le_of_ble_eq_true rfl⟩ ⟨Nat.le_of_ble_eq_true rfl, Nat.le_of_ble_eq_true rfl⟩
  have hf := xcs_l hf
  refine aw_callV 6 (some t) [.int a2] 1 rfl (thC_ob (h := a_3.2) hk_5 (by decide)) rfl rfl (ctX8_twigOf hl _ _ _ hq6) ⟨wl3 (i := 97) rfl rfl, ciX8_twigOf⟩ (wl3 (i := 99) rfl rfl) (wl0 (i := 11) rfl rfl) dX8_merge_8 rfl rfl (Nat.le_of_ble_eq_true rfl) ⟨Nat.le_of_ble_eq_true rfl, Nat.le_of_ble_eq_true rfl⟩ ⟨Nat.le_of_ble_eq_true rfl, Nat.le_of_ble_eq_true rfl⟩ ?_
  refine aw_qstore [(4, va_rf a_7.1), (3, va_rf a_3.1), (0, va_rf (some t)), (1, .int a1), (2, .int a2)] dX8_merge_11 (by decide) (by simp [cat_q, cat_i, cat_l, cat_r]) ?_
  refine aw_iload_n 3 dX8_merge_13 rfl ?_
  refine aw_iload_n 4 dX8_merge_14 rfl ?_
  refine aw_icmp_eq 27 dX8_merge_15 (by decide) (fun c9 => ?_) (fun c9 => ?_)
  · rw [if_pos c9] at hf
    refine aw_lv [] rfl ?_
    exact wkX8_merge_27 hl _ _ hf
  · rw [if_neg c9] at hf
    refine aw_qload_n 1 dX8_merge_18 rfl ?_
    refine aw_qload 0 dX8_merge_19 rfl ?_
    obtain ⟨p10, hp10, hf⟩ := xbind hf
    obtain ⟨hk_11, hf⟩ := xifn hf
    obtain ⟨q12, hq12, hf⟩ := xbind hf
    refine aw_callV 5 a_3.1 [va_rf a_7.1] 1 hp10 (thC_ob (h := a_7.2) hk_11 (by decide)) rfl rfl (ctX7_beginsAs hl _ _ _ hq12) ⟨wl3 (i := 134) rfl rfl, ciX7_beginsAs⟩ (wl3 (i := 135) rfl rfl) (wl3 (i := 136) rfl rfl) dX8_merge_21 rfl rfl (Nat.le_of_ble_eq_true rfl) ⟨Nat.le_of_ble_eq_true rfl, Nat.le_of_ble_eq_true rfl⟩ ⟨Nat.le_of_ble_eq_true rfl, Nat.le_of_ble_eq_true rfl⟩ ?_
    refine aw_ifb_ne 37 dX8_merge_24 (by decide) (fun c13 => ?_) (fun c13 => ?_)
    · rw [if_neg c13] at hf
      refine aw_qload_n 2 dX8_merge_37 rfl ?_
      obtain ⟨hk_14, hf⟩ := xifn hf
      refine th_getR 6 1 inX8 rfl hk_14 rfl ⟨by decide, by decide, rfl⟩ (wl1 (i := 74) rfl rfl) dX8_merge_38 ?_
      refine aw_qload_n 1 dX8_merge_41 rfl ?_
      refine aw_qload 0 dX8_merge_42 rfl ?_
      obtain ⟨p15, hp15, hf⟩ := xbind hf
      obtain ⟨hk_16, hf⟩ := xifn hf
      obtain ⟨q17, hq17, hf⟩ := xbind hf
      refine aw_callV 4 (t_R a_7.2 t 1) [va_rf a_3.1, va_rf a_7.1] 2 hp15 (thC_ob (h := a_7.2) hk_16 (by decide)) rfl rfl (ctX6_graft hl _ _ _ _ hq17) ⟨wl3 (i := 139) rfl rfl, ciX6_graft⟩ (wl3 (i := 140) rfl rfl) (wl3 (i := 141) rfl rfl) dX8_merge_44 rfl rfl (Nat.le_of_ble_eq_true rfl) ⟨Nat.le_of_ble_eq_true rfl, Nat.le_of_ble_eq_true rfl⟩ ⟨Nat.le_of_ble_eq_true rfl, Nat.le_of_ble_eq_true rfl⟩ ?_
      refine aw_istore [(5, .int q17.1), (4, va_rf a_7.1), (3, va_rf a_3.1), (0, va_rf (some t)), (1, .int a1), (2, .int a2)] dX8_merge_47 (by decide) (by simp [cat_q, cat_i, cat_l, cat_r]) ?_
      refine aw_iload 0 dX8_merge_49 rfl ?_
      refine aw_if_ge 64 dX8_merge_51 (by decide) (fun c18 => ?_) (fun c18 => ?_)
      · rw [if_pos c18] at hf
        refine aw_iload 0 dX8_merge_64 rfl ?_
        cases hf
        exact aw_iret dX8_merge_66 rfl rfl rfl ⟨Nat.le_of_ble_eq_true rfl, Nat.le_of_ble_eq_true rfl⟩
      · rw [if_neg c18] at hf
        cases hf
        exact aw_throw (M := MX8_merge) (pc := 54) (names := xRTE) rfl (by decide +kernel) xRTE_fit (wl1 (i := 214) rfl rfl) (wl1 (i := 12) rfl rfl) (wm3 (i := 163) rfl) xAt_35 xGd_35 dX8_merge_54 dX8_merge_57 dX8_merge_58 dX8_merge_60 dX8_merge_63 (Nat.le_of_ble_eq_true rfl) ⟨by decide, by decide⟩ ⟨Nat.le_of_ble_eq_true rfl, Nat.le_of_ble_eq_true rfl⟩
    · rw [if_pos c13] at hf
      refine aw_lv [] rfl ?_
      exact wkX8_merge_27 hl _ _ hf
abbrev MX8_net : xM := (RX8, cX8_net, 5, (some .boolean), "net")
abbrev rmX8_net : Room := { frames := 39, cells := 3, slots := 18, locals := 2362 }
theorem ciX8_net : Cond.code yX8_net cX8_net 5 (some .boolean) ∈ wt ∧ Cond.initialized yX8_net.cls ∈ wt ∧ (yX8_net.cls ≠ "java/lang/invoke/MethodHandle" ∧ yX8_net.cls ≠ "java/lang/invoke/VarHandle" ∧ (parseMethodDescriptor yX8_net.desc).map (fun d => d.parameters.length) = some 3) := ⟨wl3 (i := 194) rfl rfl, wl1 (i := 1) rfl rfl, by decide +kernel, by decide +kernel, by decide +kernel⟩
def fX8_net (h : TH) (t : Nat) (a1 : Int32) (a2 : Int32) (a3 : Int32) : Option ((Bool × TH) ⊕ (String × TH)) :=
  (if t_kd h t = 7 then (fX8_matchOf h t a1).bind fun q2 => xcs q2 fun a_3 => (fX8_requirePoint a_3.2 a2).bind fun q5 => xcs q5 fun a_6 => (fX8_requireRange a_6 a3 (1 : Int32) (3 : Int32)).bind fun q8 => xcs q8 fun a_9 => a_3.1.bind fun p11 => (if t_kd a_9 p11 = 3 then (t_R a_9 p11 6).bind fun p13 => (if t_kd a_9 p13 = 4 then (fX4_canBeCaught a_9 p13 a2 a3 (3 : Int32)).bind fun q15 => some (.inl (q15, a_9)) else none) else none) else none)
set_option maxHeartbeats 4000000 in
set_option maxRecDepth 100000 in
theorem ctX8_net {l : Launch} {g : xG} (hl : l.stackTraces = false) {r : (Bool × TH) ⊕ (String × TH)} (h : TH) (t : Nat) (a1 : Int32) (a2 : Int32) (a3 : Int32) (hf : fX8_net h t a1 a2 a3 = some r) : CT yX8_net MX8_net rmX8_net l g [va_rf (some t), .int a1, .int a2, .int a3] (thE g h) (oZ r) (thE g (hP r)) := by
  rw [fX8_net] at hf
  refine CT.of (lv0 := [(0, va_rf (some t)), (1, .int a1), (2, .int a2), (3, .int a3)]) (by decide +kernel) rfl rfl (by simp [lg_sl, cat_q, cat_i, cat_l, cat_r]) (by simp [lv_args, cat_q, cat_i, cat_l, cat_r]) hl ?_
  refine aw_qload_n 0 dX8_net_0 rfl ?_
  refine aw_iload_n 1 dX8_net_1 rfl ?_
  obtain ⟨hk_1, hf⟩ := xifn hf
  obtain ⟨q2, hq2, hf⟩ := xbind hf
  rcases q2 with a_3 | e_4
  rotate_left
  · cases hf
    exact aw_thrV (M := MX8_net) (pc := 2) 6 (some t) [.int a1] 1 rfl (thC_ob (h := h) hk_1 (by decide)) rfl rfl (ctX8_matchOf hl _ _ _ hq2) ⟨wl2 (i := 172) rfl rfl, ciX8_matchOf⟩ (wl2 (i := 174) rfl rfl) (wl0 (i := 8) rfl rfl) dX8_net_2 rfl rfl (Nat.le_of_ble_eq_true rfl) ⟨Nat.le_of_ble_eq_true rfl, Nat.le_of_ble_eq_true rfl⟩ ⟨Nat.le_of_ble_eq_true rfl, Nat.le_of_ble_eq_true rfl⟩
  have hf := xcs_l hf
  refine aw_callV 6 (some t) [.int a1] 1 rfl (thC_ob (h := h) hk_1 (by decide)) rfl rfl (ctX8_matchOf hl _ _ _ hq2) ⟨wl2 (i := 172) rfl rfl, ciX8_matchOf⟩ (wl2 (i := 174) rfl rfl) (wl0 (i := 8) rfl rfl) dX8_net_2 rfl rfl (Nat.le_of_ble_eq_true rfl) ⟨Nat.le_of_ble_eq_true rfl, Nat.le_of_ble_eq_true rfl⟩ ⟨Nat.le_of_ble_eq_true rfl, Nat.le_of_ble_eq_true rfl⟩ ?_
  refine aw_qstore [(4, va_rf a_3.1), (0, va_rf (some t)), (1, .int a1), (2, .int a2), (3, .int a3)] dX8_net_5 (by decide) rfl ?_
  refine aw_iload_n 3 dX8_net_7 rfl ?_
  obtain ⟨q5, hq5, hf⟩ := xbind hf
  rcases q5 with a_6 | e_7
  rotate_left
  · cases hf
    exact aw_thrS (M := MX8_net) (pc := 8) [.int a2] 1 (ctX8_requirePoint hl _ _ hq5) ⟨wl2 (i := 181) rfl rfl, ciX8_requirePoint⟩ (wl2 (i := 182) rfl rfl) dX8_net_8 rfl rfl (Nat.le_of_ble_eq_true rfl) ⟨Nat.le_of_ble_eq_true rfl, Nat.le_of_ble_eq_true rfl⟩ ⟨Nat.le_of_ble_eq_true rfl, Nat.le_of_ble_eq_true rfl⟩
  have hf := xcs_l hf
  refine aw_callS [.int a2] 1 (ctX8_requirePoint hl _ _ hq5) ⟨wl2 (i := 181) rfl rfl, ciX8_requirePoint⟩ (wl2 (i := 182) rfl rfl) dX8_net_8 rfl rfl (Nat.le_of_ble_eq_true rfl) ⟨Nat.le_of_ble_eq_true rfl, Nat.le_of_ble_eq_true rfl⟩ ⟨Nat.le_of_ble_eq_true rfl, Nat.le_of_ble_eq_true rfl⟩ ?_
  refine aw_iload_n 4 dX8_net_11 rfl ?_
  refine aw_iconst (1 : Int32) dX8_net_12 (by decide) ?_
  refine aw_iconst (3 : Int32) dX8_net_13 (by decide) ?_
  obtain ⟨q8, hq8, hf⟩ := xbind hf
  rcases q8 with a_9 | e_10
  rotate_left
  · cases hf
    exact aw_thrS (M := MX8_net) (pc := 14) [.int a3, .int (1 : Int32), .int (3 : Int32)] 3 (ctX8_requireRange hl _ _ _ _ hq8) ⟨wl1 (i := 139) rfl rfl, ciX8_requireRange⟩ (wl1 (i := 140) rfl rfl) dX8_net_14 rfl rfl (Nat.le_of_ble_eq_true rfl) ⟨Nat.le_of_ble_eq_true rfl, Nat.le_of_ble_eq_true rfl⟩ ⟨Nat.le_of_ble_eq_true rfl, Nat.le_of_ble_eq_true rfl⟩
  have hf := xcs_l hf
  refine aw_callS [.int a3, .int (1 : Int32), .int (3 : Int32)] 3 (ctX8_requireRange hl _ _ _ _ hq8) ⟨wl1 (i := 139) rfl rfl, ciX8_requireRange⟩ (wl1 (i := 140) rfl rfl) dX8_net_14 rfl rfl (Nat.le_of_ble_eq_true rfl) ⟨Nat.le_of_ble_eq_true rfl, Nat.le_of_ble_eq_true rfl⟩ ⟨Nat.le_of_ble_eq_true rfl, Nat.le_of_ble_eq_true rfl⟩ ?_
  refine aw_qload 0 dX8_net_17 rfl ?_
  obtain ⟨p11, hp11, hf⟩ := xbind hf
  obtain ⟨hk_12, hf⟩ := xifn hf
  refine th_getRN "AtariGarden" 2 6 inX3 hp11 hk_12 rfl ⟨by decide, by decide, rfl⟩ (wm2 (i := 138) rfl) dX8_net_19 ?_
  refine aw_iload_n 3 dX8_net_22 rfl ?_
  refine aw_iload_n 4 dX8_net_23 rfl ?_
  refine aw_iconst (3 : Int32) dX8_net_24 (by decide) ?_
  obtain ⟨p13, hp13, hf⟩ := xbind hf
  obtain ⟨hk_14, hf⟩ := xifn hf
  obtain ⟨q15, hq15, hf⟩ := xbind hf
  refine aw_callV 3 (t_R a_9 p11 6) [.int a2, .int a3, .int (3 : Int32)] 3 hp13 (thC_ob (h := a_9) hk_14 (by decide)) rfl rfl (ctX4_canBeCaught hl _ _ _ _ _ hq15) ⟨wl3 (i := 168) rfl rfl, ciX4_canBeCaught⟩ (wl3 (i := 169) rfl rfl) (wl3 (i := 170) rfl rfl) dX8_net_25 rfl rfl (Nat.le_of_ble_eq_true rfl) ⟨Nat.le_of_ble_eq_true rfl, Nat.le_of_ble_eq_true rfl⟩ ⟨Nat.le_of_ble_eq_true rfl, Nat.le_of_ble_eq_true rfl⟩ ?_
  cases hf
  exact aw_zret dX8_net_28 rfl (nar_b _) rfl rfl ⟨Nat.le_of_ble_eq_true rfl, Nat.le_of_ble_eq_true rfl⟩
abbrev MX8_node : xM := (RX8, cX8_node, 2, (some .int), "node")
abbrev rmX8_node : Room := { frames := 7, cells := 1, slots := 6, locals := 112 }
theorem ciX8_node : Cond.code yX8_node cX8_node 2 (some .int) ∈ wt ∧ Cond.initialized yX8_node.cls ∈ wt ∧ (yX8_node.cls ≠ "java/lang/invoke/MethodHandle" ∧ yX8_node.cls ≠ "java/lang/invoke/VarHandle" ∧ (parseMethodDescriptor yX8_node.desc).map (fun d => d.parameters.length) = some 1) := ⟨wl4 (i := 25) rfl rfl, wl1 (i := 1) rfl rfl, by decide +kernel, by decide +kernel, by decide +kernel⟩
def fX8_node (h : TH) (t : Nat) (a1 : Int32) : Option ((Int32 × TH) ⊕ (String × TH)) :=
  (if t_kd h t = 7 then (fX8_twigOf h t a1).bind fun q2 => xcs q2 fun a_3 => a_3.1.bind fun p5 => (if t_kd a_3.2 p5 = 6 then (fX7_told a_3.2 p5).bind fun q7 => some (.inl (q7, a_3.2)) else none) else none)
set_option maxHeartbeats 4000000 in
set_option maxRecDepth 100000 in
theorem ctX8_node {l : Launch} {g : xG} (hl : l.stackTraces = false) {r : (Int32 × TH) ⊕ (String × TH)} (h : TH) (t : Nat) (a1 : Int32) (hf : fX8_node h t a1 = some r) : CT yX8_node MX8_node rmX8_node l g [va_rf (some t), .int a1] (thE g h) (oI r) (thE g (hP r)) := by
  rw [fX8_node] at hf
  refine CT.of (lv0 := [(0, va_rf (some t)), (1, .int a1)]) (by decide +kernel) rfl rfl (by simp [lg_sl, cat_q, cat_i, cat_l, cat_r]) (by simp [lv_args, cat_q, cat_i, cat_l, cat_r]) hl ?_
  refine aw_qload_n 0 dX8_node_0 rfl ?_
  refine aw_iload_n 1 dX8_node_1 rfl ?_
  obtain ⟨hk_1, hf⟩ := xifn hf
  obtain ⟨q2, hq2, hf⟩ := xbind hf
  rcases q2 with a_3 | e_4
  rotate_left
  · cases hf
    exact aw_thrV (M := MX8_node) (pc := 2) 6 (some t) [.int a1] 1 rfl (thC_ob (h := h) hk_1 (by decide)) rfl rfl (ctX8_twigOf hl _ _ _ hq2) ⟨wl3 (i := 97) rfl rfl, ciX8_twigOf⟩ (wl3 (i := 99) rfl rfl) (wl0 (i := 11) rfl rfl) dX8_node_2 rfl rfl (Nat.le_of_ble_eq_true rfl) ⟨Nat.le_of_ble_eq_true rfl, Nat.le_of_ble_eq_true rfl⟩ ⟨Nat.le_of_ble_eq_true rfl, Nat.le_of_ble_eq_true rfl⟩
  have hf := xcs_l hf
  refine aw_callV 6 (some t) [.int a1] 1 rfl (thC_ob (h := h) hk_1 (by decide)) rfl rfl (ctX8_twigOf hl _ _ _ hq2) ⟨wl3 (i := 97) rfl rfl, ciX8_twigOf⟩ (wl3 (i := 99) rfl rfl) (wl0 (i := 11) rfl rfl) dX8_node_2 rfl rfl (Nat.le_of_ble_eq_true rfl) ⟨Nat.le_of_ble_eq_true rfl, Nat.le_of_ble_eq_true rfl⟩ ⟨Nat.le_of_ble_eq_true rfl, Nat.le_of_ble_eq_true rfl⟩ ?_
  obtain ⟨p5, hp5, hf⟩ := xbind hf
  obtain ⟨hk_6, hf⟩ := xifn hf
  obtain ⟨q7, hq7, hf⟩ := xbind hf
  refine aw_callV 5 a_3.1 [] 0 hp5 (thC_ob (h := a_3.2) hk_6 (by decide)) rfl rfl (ctX7_told hl _ _ hq7) ⟨wl4 (i := 26) rfl rfl, ciX7_told⟩ (wl4 (i := 27) rfl rfl) (wl4 (i := 28) rfl rfl) dX8_node_5 rfl rfl (Nat.le_of_ble_eq_true rfl) ⟨Nat.le_of_ble_eq_true rfl, Nat.le_of_ble_eq_true rfl⟩ ⟨Nat.le_of_ble_eq_true rfl, Nat.le_of_ble_eq_true rfl⟩ ?_
  cases hf
  exact aw_iret dX8_node_8 rfl rfl rfl ⟨Nat.le_of_ble_eq_true rfl, Nat.le_of_ble_eq_true rfl⟩
abbrev MX8_requireGoesOn : xM := (RX8, cX8_requireGoesOn, 1, none, "requireGoesOn")
abbrev rmX8_requireGoesOn : Room := { frames := 6, cells := 1, slots := 6, locals := 90 }
theorem ciX8_requireGoesOn : Cond.code yX8_requireGoesOn cX8_requireGoesOn 1 none ∈ wt ∧ Cond.initialized yX8_requireGoesOn.cls ∈ wt ∧ (yX8_requireGoesOn.cls ≠ "java/lang/invoke/MethodHandle" ∧ yX8_requireGoesOn.cls ≠ "java/lang/invoke/VarHandle" ∧ (parseMethodDescriptor yX8_requireGoesOn.desc).map (fun d => d.parameters.length) = some 1) := ⟨wl2 (i := 236) rfl rfl, wl1 (i := 1) rfl rfl, by decide +kernel, by decide +kernel, by decide +kernel⟩
def fX8_requireGoesOn (h : TH) (a0 : Option Nat) : Option ((TH) ⊕ (String × TH)) :=
  a0.bind fun p1 => (if t_kd h p1 = 3 then (fX3_goesOn h p1).bind fun q3 => (if q3 = false then some (.inr ("java/lang/IllegalStateException", h)) else some (.inl h)) else none)
set_option maxHeartbeats 4000000 in
set_option maxRecDepth 100000 in
theorem ctX8_requireGoesOn {l : Launch} {g : xG} (hl : l.stackTraces = false) {r : (TH) ⊕ (String × TH)} (h : TH) (a0 : Option Nat) (hf : fX8_requireGoesOn h a0 = some r) : CT yX8_requireGoesOn MX8_requireGoesOn rmX8_requireGoesOn l g [va_rf a0] (thE g h) (oV r) (thE g (hV r)) := by
  rw [fX8_requireGoesOn] at hf
  refine CT.of (lv0 := [(0, va_rf a0)]) (by decide +kernel) rfl rfl (by simp [lg_sl, cat_q, cat_i, cat_l, cat_r]) (by simp [lv_args, cat_q, cat_i, cat_l, cat_r]) hl ?_
  refine aw_qload_n 0 dX8_requireGoesOn_0 rfl ?_
  obtain ⟨p1, hp1, hf⟩ := xbind hf
  obtain ⟨hk_2, hf⟩ := xifn hf
  obtain ⟨q3, hq3, hf⟩ := xbind hf
  refine aw_callV 2 a0 [] 0 hp1 (thC_ob (h := h) hk_2 (by decide)) rfl rfl (ctX3_goesOn hl _ _ hq3) ⟨wl2 (i := 185) rfl rfl, ciX3_goesOn⟩ (wl2 (i := 44) rfl rfl) (wl2 (i := 45) rfl rfl) dX8_requireGoesOn_1 rfl rfl (Nat.le_of_ble_eq_true rfl) ⟨Nat.le_of_ble_eq_true rfl, Nat.le_of_ble_eq_true rfl⟩ ⟨Nat.le_of_ble_eq_true rfl, Nat.le_of_ble_eq_true rfl⟩ ?_
  refine aw_ifb_ne 17 dX8_requireGoesOn_4 (by decide) (fun c4 => ?_) (fun c4 => ?_)
  · rw [if_neg c4] at hf
    cases hf
    exact aw_vret dX8_requireGoesOn_17 rfl rfl rfl ⟨Nat.le_of_ble_eq_true rfl, Nat.le_of_ble_eq_true rfl⟩
  · rw [if_pos c4] at hf
    cases hf
    exact aw_throw (M := MX8_requireGoesOn) (pc := 7) (names := xRTE) rfl (by decide +kernel) xRTE_fit (wl1 (i := 214) rfl rfl) (wl1 (i := 12) rfl rfl) (wm2 (i := 237) rfl) xAt_35 xGd_35 dX8_requireGoesOn_7 dX8_requireGoesOn_10 dX8_requireGoesOn_11 dX8_requireGoesOn_13 dX8_requireGoesOn_16 (Nat.le_of_ble_eq_true rfl) ⟨by decide, by decide⟩ ⟨Nat.le_of_ble_eq_true rfl, Nat.le_of_ble_eq_true rfl⟩
abbrev MX8_pass : xM := (RX8, cX8_pass, 4, (some .int), "pass")
abbrev rmX8_pass : Room := { frames := 7, cells := 4, slots := 24, locals := 146 }
theorem ciX8_pass : Cond.code yX8_pass cX8_pass 4 (some .int) ∈ wt ∧ Cond.initialized yX8_pass.cls ∈ wt ∧ (yX8_pass.cls ≠ "java/lang/invoke/MethodHandle" ∧ yX8_pass.cls ≠ "java/lang/invoke/VarHandle" ∧ (parseMethodDescriptor yX8_pass.desc).map (fun d => d.parameters.length) = some 2) := ⟨wl2 (i := 233) rfl rfl, wl1 (i := 1) rfl rfl, by decide +kernel, by decide +kernel, by decide +kernel⟩
def fX8_pass_38 (h : TH) (t : Nat) (a3 : Option Nat) : Option ((Int32 × TH) ⊕ (String × TH)) :=
  a3.bind fun p1 => (if t_kd h p1 = 3 then (fX3_told h p1).bind fun q3 => some (.inl (q3, h)) else none)
set_option maxHeartbeats 4000000 in
set_option maxRecDepth 100000 in
theorem wkX8_pass_38 {l : Launch} {g : xG} {x0 : xV} (hl : l.stackTraces = false) {r : (Int32 × TH) ⊕ (String × TH)} (h : TH) (t : Nat) (a3 : Option Nat) (hf : fX8_pass_38 h t a3 = some r) : AW MX8_pass rmX8_pass l g x0 (oI r) (thE g (hP r)) 4 24 (thE g h) 38 [(3, va_rf a3)] [] := by
  rw [fX8_pass_38] at hf
  refine aw_qload_n 0 dX8_pass_38 rfl ?_
  obtain ⟨p1, hp1, hf⟩ := xbind hf
  obtain ⟨hk_2, hf⟩ := xifn hf
  obtain ⟨q3, hq3, hf⟩ := xbind hf
  refine aw_callV 2 a3 [] 0 hp1 (thC_ob (h := h) hk_2 (by decide)) rfl rfl (ctX3_told hl _ _ hq3) ⟨wl3 (i := 19) rfl rfl, ciX3_told⟩ (wl3 (i := 20) rfl rfl) (wl3 (i := 21) rfl rfl) dX8_pass_39 rfl rfl (Nat.le_of_ble_eq_true rfl) ⟨Nat.le_of_ble_eq_true rfl, Nat.le_of_ble_eq_true rfl⟩ ⟨Nat.le_of_ble_eq_true rfl, Nat.le_of_ble_eq_true rfl⟩ ?_
  cases hf
  exact aw_iret dX8_pass_42 rfl rfl rfl ⟨Nat.le_of_ble_eq_true rfl, Nat.le_of_ble_eq_true rfl⟩
def fX8_pass (h : TH) (t : Nat) (a1 : Int32) (a2 : Int32) : Option ((Int32 × TH) ⊕ (String × TH)) :=
  (if t_kd h t = 7 then (fX8_matchOf h t a1).bind fun q2 => xcs q2 fun a_3 => (fX8_requireRange a_3.2 a2 (0 : Int32) (1000 : Int32)).bind fun q5 => xcs q5 fun a_6 => (fX8_requireGoesOn a_6 a_3.1).bind fun q8 => xcs q8 fun a_9 => (if t_kd a_9 t = 7 then (t_R a_9 t 0).bind fun p12 => (if t_kd a_9 p12 = 2 then (fX2_spend a_9 p12 a_3.1 a2).bind fun q14 => (if q14.1 = false then fX8_pass_38 q14.2 t a_3.1 else (if t_kd q14.2 t = 7 then (t_R q14.2 t 0).bind fun p17 => (if t_kd q14.2 p17 = 2 then (fX2_passIn q14.2 p17 a_3.1).bind fun q19 => fX8_pass_38 q19 t a_3.1 else none) else none)) else none) else none) else none)
set_option maxHeartbeats 4000000 in
set_option maxRecDepth 100000 in
theorem ctX8_pass {l : Launch} {g : xG} (hl : l.stackTraces = false) {r : (Int32 × TH) ⊕ (String × TH)} (h : TH) (t : Nat) (a1 : Int32) (a2 : Int32) (hf : fX8_pass h t a1 a2 = some r) : CT yX8_pass MX8_pass rmX8_pass l g [va_rf (some t), .int a1, .int a2] (thE g h) (oI r) (thE g (hP r)) := by
  rw [fX8_pass] at hf
  refine CT.of (lv0 := [(0, va_rf (some t)), (1, .int a1), (2, .int a2)]) (by decide +kernel) rfl rfl (by simp [lg_sl, cat_q, cat_i, cat_l, cat_r]) (by simp [lv_args, cat_q, cat_i, cat_l, cat_r]) hl ?_
  refine aw_qload_n 0 dX8_pass_0 rfl ?_
  refine aw_iload_n 1 dX8_pass_1 rfl ?_
  obtain ⟨hk_1, hf⟩ := xifn hf
  obtain ⟨q2, hq2, hf⟩ := xbind hf
  rcases q2 with a_3 | e_4
  rotate_left
  · cases hf
    exact aw_thrV (M := MX8_pass) (pc := 2) 6 (some t) [.int a1] 1 rfl (thC_ob (h := h) hk_1 (by decide)) rfl rfl (ctX8_matchOf hl _ _ _ hq2) ⟨wl2 (i := 172) rfl rfl, ciX8_matchOf⟩ (wl2 (i := 174) rfl rfl) (wl0 (i := 8) rfl rfl) dX8_pass_2 rfl rfl (Nat.le_of_ble_eq_true rfl) ⟨Nat.le_of_ble_eq_true rfl, Nat.le_of_ble_eq_true rfl⟩ ⟨Nat.le_of_ble_eq_true rfl, Nat.le_of_ble_eq_true rfl⟩
  have hf := xcs_l hf
  refine aw_callV 6 (some t) [.int a1] 1 rfl (thC_ob (h := h) hk_1 (by decide)) rfl rfl (ctX8_matchOf hl _ _ _ hq2) ⟨wl2 (i := 172) rfl rfl, ciX8_matchOf⟩ (wl2 (i := 174) rfl rfl) (wl0 (i := 8) rfl rfl) dX8_pass_2 rfl rfl (Nat.le_of_ble_eq_true rfl) ⟨Nat.le_of_ble_eq_true rfl, Nat.le_of_ble_eq_true rfl⟩ ⟨Nat.le_of_ble_eq_true rfl, Nat.le_of_ble_eq_true rfl⟩ ?_
  refine aw_qstore_n [(3, va_rf a_3.1), (0, va_rf (some t)), (1, .int a1), (2, .int a2)] dX8_pass_5 rfl (by decide) rfl ?_
  refine aw_iload_n 3 dX8_pass_6 rfl ?_
  refine aw_iconst (0 : Int32) dX8_pass_7 (by decide) ?_
  refine aw_sipush (1000 : Int32) dX8_pass_8 (by decide) ?_
  obtain ⟨q5, hq5, hf⟩ := xbind hf
  rcases q5 with a_6 | e_7
  rotate_left
  · cases hf
    exact aw_thrS (M := MX8_pass) (pc := 11) [.int a2, .int (0 : Int32), .int (1000 : Int32)] 3 (ctX8_requireRange hl _ _ _ _ hq5) ⟨wl1 (i := 139) rfl rfl, ciX8_requireRange⟩ (wl1 (i := 140) rfl rfl) dX8_pass_11 rfl rfl (Nat.le_of_ble_eq_true rfl) ⟨Nat.le_of_ble_eq_true rfl, Nat.le_of_ble_eq_true rfl⟩ ⟨Nat.le_of_ble_eq_true rfl, Nat.le_of_ble_eq_true rfl⟩
  have hf := xcs_l hf
  refine aw_callS [.int a2, .int (0 : Int32), .int (1000 : Int32)] 3 (ctX8_requireRange hl _ _ _ _ hq5) ⟨wl1 (i := 139) rfl rfl, ciX8_requireRange⟩ (wl1 (i := 140) rfl rfl) dX8_pass_11 rfl rfl (Nat.le_of_ble_eq_true rfl) ⟨Nat.le_of_ble_eq_true rfl, Nat.le_of_ble_eq_true rfl⟩ ⟨Nat.le_of_ble_eq_true rfl, Nat.le_of_ble_eq_true rfl⟩ ?_
  refine aw_qload_n 0 dX8_pass_14 rfl ?_
  obtain ⟨q8, hq8, hf⟩ := xbind hf
  rcases q8 with a_9 | e_10
  rotate_left
  · cases hf
    exact aw_thrS (M := MX8_pass) (pc := 15) [va_rf a_3.1] 1 (ctX8_requireGoesOn hl _ _ hq8) ⟨wl2 (i := 234) rfl rfl, ciX8_requireGoesOn⟩ (wl2 (i := 235) rfl rfl) dX8_pass_15 rfl rfl (Nat.le_of_ble_eq_true rfl) ⟨Nat.le_of_ble_eq_true rfl, Nat.le_of_ble_eq_true rfl⟩ ⟨Nat.le_of_ble_eq_true rfl, Nat.le_of_ble_eq_true rfl⟩
  have hf := xcs_l hf
  refine aw_callS [va_rf a_3.1] 1 (ctX8_requireGoesOn hl _ _ hq8) ⟨wl2 (i := 234) rfl rfl, ciX8_requireGoesOn⟩ (wl2 (i := 235) rfl rfl) dX8_pass_15 rfl rfl (Nat.le_of_ble_eq_true rfl) ⟨Nat.le_of_ble_eq_true rfl, Nat.le_of_ble_eq_true rfl⟩ ⟨Nat.le_of_ble_eq_true rfl, Nat.le_of_ble_eq_true rfl⟩ ?_
  refine aw_qload_n 1 dX8_pass_18 rfl ?_
  obtain ⟨hk_11, hf⟩ := xifn hf
  refine th_getR 6 0 inX8 rfl hk_11 rfl ⟨by decide, by decide, rfl⟩ (wl1 (i := 73) rfl rfl) dX8_pass_19 ?_
  refine aw_qload_n 0 dX8_pass_22 rfl ?_
  refine aw_iload_n 3 dX8_pass_23 rfl ?_
  obtain ⟨p12, hp12, hf⟩ := xbind hf
  obtain ⟨hk_13, hf⟩ := xifn hf
  obtain ⟨q14, hq14, hf⟩ := xbind hf
  refine aw_callV 1 (t_R a_9 t 0) [va_rf a_3.1, .int a2] 2 hp12 (thC_ob (h := a_9) hk_13 (by decide)) rfl rfl (ctX2_spend hl _ _ _ _ hq14) ⟨wl2 (i := 205) rfl rfl, ciX2_spend⟩ (wl2 (i := 206) rfl rfl) (wl2 (i := 207) rfl rfl) dX8_pass_24 rfl rfl (Nat.le_of_ble_eq_true rfl) ⟨Nat.le_of_ble_eq_true rfl, Nat.le_of_ble_eq_true rfl⟩ ⟨Nat.le_of_ble_eq_true rfl, Nat.le_of_ble_eq_true rfl⟩ ?_
  refine aw_ifb_eq 38 dX8_pass_27 (by decide) (fun c15 => ?_) (fun c15 => ?_)
  · rw [if_pos c15] at hf
    refine aw_lv [0] rfl ?_
    refine aw_widen 4 24 (Nat.le_of_ble_eq_true rfl) (Nat.le_of_ble_eq_true rfl) ?_
    exact wkX8_pass_38 hl _ _ _ hf
  · rw [if_neg c15] at hf
    refine aw_qload_n 1 dX8_pass_30 rfl ?_
    obtain ⟨hk_16, hf⟩ := xifn hf
    refine th_getR 6 0 inX8 rfl hk_16 rfl ⟨by decide, by decide, rfl⟩ (wl1 (i := 73) rfl rfl) dX8_pass_31 ?_
    refine aw_qload_n 0 dX8_pass_34 rfl ?_
    obtain ⟨p17, hp17, hf⟩ := xbind hf
    obtain ⟨hk_18, hf⟩ := xifn hf
    obtain ⟨q19, hq19, hf⟩ := xbind hf
    refine aw_callV 1 (t_R q14.2 t 0) [va_rf a_3.1] 1 hp17 (thC_ob (h := q14.2) hk_18 (by decide)) rfl rfl (ctX2_passIn hl _ _ _ hq19) ⟨wl2 (i := 238) rfl rfl, ciX2_passIn⟩ (wl2 (i := 239) rfl rfl) (wl3 (i := 0) rfl rfl) dX8_pass_35 rfl rfl (Nat.le_of_ble_eq_true rfl) ⟨Nat.le_of_ble_eq_true rfl, Nat.le_of_ble_eq_true rfl⟩ ⟨Nat.le_of_ble_eq_true rfl, Nat.le_of_ble_eq_true rfl⟩ ?_
    refine aw_lv [0] rfl ?_
    exact wkX8_pass_38 hl _ _ _ hf
abbrev MX8_play : xM := (RX8, cX8_play, 6, (some .int), "play")
abbrev rmX8_play : Room := { frames := 7, cells := 5, slots := 30, locals := 125 }
theorem ciX8_play : Cond.code yX8_play cX8_play 6 (some .int) ∈ wt ∧ Cond.initialized yX8_play.cls ∈ wt ∧ (yX8_play.cls ≠ "java/lang/invoke/MethodHandle" ∧ yX8_play.cls ≠ "java/lang/invoke/VarHandle" ∧ (parseMethodDescriptor yX8_play.desc).map (fun d => d.parameters.length) = some 3) := ⟨wl2 (i := 171) rfl rfl, wl1 (i := 1) rfl rfl, by decide +kernel, by decide +kernel, by decide +kernel⟩
def fX8_play_40 (h : TH) (t : Nat) (a3 : Int32) (a4 : Option Nat) (s0 : Option Nat) : Option ((Int32 × TH) ⊕ (String × TH)) :=
  (if s0 = none then some (.inr ("java/lang/IllegalStateException", h)) else (if t_kd h t = 7 then (t_R h t 0).bind fun p3 => (if t_kd h p3 = 2 then (fX2_spend h p3 a4 a3).bind fun q5 => (if q5.1 = false then some (.inl ((-1 : Int32), q5.2)) else a4.bind fun p7 => (if t_kd q5.2 p7 = 3 then (fX3_advance q5.2 p7 s0).bind fun q9 => some (.inl (q9.1, q9.2)) else none)) else none) else none))
set_option maxHeartbeats 4000000 in
set_option maxRecDepth 100000 in
theorem wkX8_play_40 {l : Launch} {g : xG} {x0 : xV} (hl : l.stackTraces = false) {r : (Int32 × TH) ⊕ (String × TH)} (h : TH) (t : Nat) (a3 : Int32) (a4 : Option Nat) (s0 : Option Nat) (hf : fX8_play_40 h t a3 a4 s0 = some r) : AW MX8_play rmX8_play l g x0 (oI r) (thE g (hP r)) 4 24 (thE g h) 40 [(0, va_rf (some t)), (3, .int a3), (4, va_rf a4)] [va_rf s0] := by
  rw [fX8_play_40] at hf
  refine aw_qstore [(5, va_rf s0), (0, va_rf (some t)), (3, .int a3), (4, va_rf a4)] dX8_play_40 (by decide) (by simp [cat_q, cat_i, cat_l, cat_r]) ?_
  refine aw_qload 0 dX8_play_42 rfl ?_
  refine aw_ifnonnull 57 dX8_play_44 (by decide) (fun c1 => ?_) (fun c1 => ?_)
  · rw [if_neg c1] at hf
    refine aw_qload_n 1 dX8_play_57 rfl ?_
    obtain ⟨hk_2, hf⟩ := xifn hf
    refine th_getR 6 0 inX8 rfl hk_2 rfl ⟨by decide, by decide, rfl⟩ (wl1 (i := 73) rfl rfl) dX8_play_58 ?_
    refine aw_qload 3 dX8_play_61 rfl ?_
    refine aw_iload_n 2 dX8_play_63 rfl ?_
    obtain ⟨p3, hp3, hf⟩ := xbind hf
    obtain ⟨hk_4, hf⟩ := xifn hf
    obtain ⟨q5, hq5, hf⟩ := xbind hf
    refine aw_callV 1 (t_R h t 0) [va_rf a4, .int a3] 2 hp3 (thC_ob (h := h) hk_4 (by decide)) rfl rfl (ctX2_spend hl _ _ _ _ hq5) ⟨wl2 (i := 205) rfl rfl, ciX2_spend⟩ (wl2 (i := 206) rfl rfl) (wl2 (i := 207) rfl rfl) dX8_play_64 rfl rfl (Nat.le_of_ble_eq_true rfl) ⟨Nat.le_of_ble_eq_true rfl, Nat.le_of_ble_eq_true rfl⟩ ⟨Nat.le_of_ble_eq_true rfl, Nat.le_of_ble_eq_true rfl⟩ ?_
    refine aw_ifb_eq 80 dX8_play_67 (by decide) (fun c6 => ?_) (fun c6 => ?_)
    · rw [if_pos c6] at hf
      refine aw_iconst (-1 : Int32) dX8_play_80 (by decide) ?_
      cases hf
      exact aw_iret dX8_play_81 rfl rfl rfl ⟨Nat.le_of_ble_eq_true rfl, Nat.le_of_ble_eq_true rfl⟩
    · rw [if_neg c6] at hf
      refine aw_qload 3 dX8_play_70 rfl ?_
      refine aw_qload 0 dX8_play_72 rfl ?_
      obtain ⟨p7, hp7, hf⟩ := xbind hf
      obtain ⟨hk_8, hf⟩ := xifn hf
      obtain ⟨q9, hq9, hf⟩ := xbind hf
      refine aw_callV 2 a4 [va_rf s0] 1 hp7 (thC_ob (h := q5.2) hk_8 (by decide)) rfl rfl (ctX3_advance hl _ _ _ hq9) ⟨wl2 (i := 226) rfl rfl, ciX3_advance⟩ (wl2 (i := 227) rfl rfl) (wl2 (i := 228) rfl rfl) dX8_play_74 rfl rfl (Nat.le_of_ble_eq_true rfl) ⟨Nat.le_of_ble_eq_true rfl, Nat.le_of_ble_eq_true rfl⟩ ⟨Nat.le_of_ble_eq_true rfl, Nat.le_of_ble_eq_true rfl⟩ ?_
      refine aw_goto 81 dX8_play_77 (by decide) ?_
      cases hf
      exact aw_iret dX8_play_81 rfl rfl rfl ⟨Nat.le_of_ble_eq_true rfl, Nat.le_of_ble_eq_true rfl⟩
  · rw [if_pos c1] at hf
    cases hf
    exact aw_throw (M := MX8_play) (pc := 47) (names := xRTE) rfl (by decide +kernel) xRTE_fit (wl1 (i := 214) rfl rfl) (wl1 (i := 12) rfl rfl) (wm2 (i := 204) rfl) xAt_35 xGd_35 dX8_play_47 dX8_play_50 dX8_play_51 dX8_play_53 dX8_play_56 (Nat.le_of_ble_eq_true rfl) ⟨by decide, by decide⟩ ⟨Nat.le_of_ble_eq_true rfl, Nat.le_of_ble_eq_true rfl⟩
def fX8_play (h : TH) (t : Nat) (a1 : Int32) (a2 : Int32) (a3 : Int32) : Option ((Int32 × TH) ⊕ (String × TH)) :=
  (if t_kd h t = 7 then (fX8_matchOf h t a1).bind fun q2 => xcs q2 fun a_3 => (fX8_requirePoint a_3.2 a2).bind fun q5 => xcs q5 fun a_6 => (fX8_requireRange a_6 a3 (0 : Int32) (1000 : Int32)).bind fun q8 => xcs q8 fun a_9 => a_3.1.bind fun p11 => (if t_kd a_9 p11 = 3 then (fX3_goesOn a_9 p11).bind fun q13 => (if q13 = false then fX8_play_40 a_9 t a3 a_3.1 none else (t_R a_9 p11 6).bind fun p15 => (if t_kd a_9 p15 = 4 then (fX4_withStone a_9 p15 a2).bind fun q17 => fX8_play_40 q17.2 t a3 a_3.1 q17.1 else none)) else none) else none)
set_option maxHeartbeats 4000000 in
set_option maxRecDepth 100000 in
theorem ctX8_play {l : Launch} {g : xG} (hl : l.stackTraces = false) {r : (Int32 × TH) ⊕ (String × TH)} (h : TH) (t : Nat) (a1 : Int32) (a2 : Int32) (a3 : Int32) (hf : fX8_play h t a1 a2 a3 = some r) : CT yX8_play MX8_play rmX8_play l g [va_rf (some t), .int a1, .int a2, .int a3] (thE g h) (oI r) (thE g (hP r)) := by
  rw [fX8_play] at hf
  refine CT.of (lv0 := [(0, va_rf (some t)), (1, .int a1), (2, .int a2), (3, .int a3)]) (by decide +kernel) rfl rfl (by simp [lg_sl, cat_q, cat_i, cat_l, cat_r]) (by simp [lv_args, cat_q, cat_i, cat_l, cat_r]) hl ?_
  refine aw_qload_n 0 dX8_play_0 rfl ?_
  refine aw_iload_n 1 dX8_play_1 rfl ?_
  obtain ⟨hk_1, hf⟩ := xifn hf
  obtain ⟨q2, hq2, hf⟩ := xbind hf
  rcases q2 with a_3 | e_4
  rotate_left
  · cases hf
    exact aw_thrV (M := MX8_play) (pc := 2) 6 (some t) [.int a1] 1 rfl (thC_ob (h := h) hk_1 (by decide)) rfl rfl (ctX8_matchOf hl _ _ _ hq2) ⟨wl2 (i := 172) rfl rfl, ciX8_matchOf⟩ (wl2 (i := 174) rfl rfl) (wl0 (i := 8) rfl rfl) dX8_play_2 rfl rfl (Nat.le_of_ble_eq_true rfl) ⟨Nat.le_of_ble_eq_true rfl, Nat.le_of_ble_eq_true rfl⟩ ⟨Nat.le_of_ble_eq_true rfl, Nat.le_of_ble_eq_true rfl⟩
  have hf := xcs_l hf
  refine aw_callV 6 (some t) [.int a1] 1 rfl (thC_ob (h := h) hk_1 (by decide)) rfl rfl (ctX8_matchOf hl _ _ _ hq2) ⟨wl2 (i := 172) rfl rfl, ciX8_matchOf⟩ (wl2 (i := 174) rfl rfl) (wl0 (i := 8) rfl rfl) dX8_play_2 rfl rfl (Nat.le_of_ble_eq_true rfl) ⟨Nat.le_of_ble_eq_true rfl, Nat.le_of_ble_eq_true rfl⟩ ⟨Nat.le_of_ble_eq_true rfl, Nat.le_of_ble_eq_true rfl⟩ ?_
  refine aw_qstore [(4, va_rf a_3.1), (0, va_rf (some t)), (1, .int a1), (2, .int a2), (3, .int a3)] dX8_play_5 (by decide) rfl ?_
  refine aw_iload_n 3 dX8_play_7 rfl ?_
  obtain ⟨q5, hq5, hf⟩ := xbind hf
  rcases q5 with a_6 | e_7
  rotate_left
  · cases hf
    exact aw_thrS (M := MX8_play) (pc := 8) [.int a2] 1 (ctX8_requirePoint hl _ _ hq5) ⟨wl2 (i := 181) rfl rfl, ciX8_requirePoint⟩ (wl2 (i := 182) rfl rfl) dX8_play_8 rfl rfl (Nat.le_of_ble_eq_true rfl) ⟨Nat.le_of_ble_eq_true rfl, Nat.le_of_ble_eq_true rfl⟩ ⟨Nat.le_of_ble_eq_true rfl, Nat.le_of_ble_eq_true rfl⟩
  have hf := xcs_l hf
  refine aw_callS [.int a2] 1 (ctX8_requirePoint hl _ _ hq5) ⟨wl2 (i := 181) rfl rfl, ciX8_requirePoint⟩ (wl2 (i := 182) rfl rfl) dX8_play_8 rfl rfl (Nat.le_of_ble_eq_true rfl) ⟨Nat.le_of_ble_eq_true rfl, Nat.le_of_ble_eq_true rfl⟩ ⟨Nat.le_of_ble_eq_true rfl, Nat.le_of_ble_eq_true rfl⟩ ?_
  refine aw_iload_n 4 dX8_play_11 rfl ?_
  refine aw_iconst (0 : Int32) dX8_play_12 (by decide) ?_
  refine aw_sipush (1000 : Int32) dX8_play_13 (by decide) ?_
  obtain ⟨q8, hq8, hf⟩ := xbind hf
  rcases q8 with a_9 | e_10
  rotate_left
  · cases hf
    exact aw_thrS (M := MX8_play) (pc := 16) [.int a3, .int (0 : Int32), .int (1000 : Int32)] 3 (ctX8_requireRange hl _ _ _ _ hq8) ⟨wl1 (i := 139) rfl rfl, ciX8_requireRange⟩ (wl1 (i := 140) rfl rfl) dX8_play_16 rfl rfl (Nat.le_of_ble_eq_true rfl) ⟨Nat.le_of_ble_eq_true rfl, Nat.le_of_ble_eq_true rfl⟩ ⟨Nat.le_of_ble_eq_true rfl, Nat.le_of_ble_eq_true rfl⟩
  have hf := xcs_l hf
  refine aw_callS [.int a3, .int (0 : Int32), .int (1000 : Int32)] 3 (ctX8_requireRange hl _ _ _ _ hq8) ⟨wl1 (i := 139) rfl rfl, ciX8_requireRange⟩ (wl1 (i := 140) rfl rfl) dX8_play_16 rfl rfl (Nat.le_of_ble_eq_true rfl) ⟨Nat.le_of_ble_eq_true rfl, Nat.le_of_ble_eq_true rfl⟩ ⟨Nat.le_of_ble_eq_true rfl, Nat.le_of_ble_eq_true rfl⟩ ?_
  refine aw_qload 0 dX8_play_19 rfl ?_
  obtain ⟨p11, hp11, hf⟩ := xbind hf
  obtain ⟨hk_12, hf⟩ := xifn hf
  obtain ⟨q13, hq13, hf⟩ := xbind hf
  refine aw_callV 2 a_3.1 [] 0 hp11 (thC_ob (h := a_9) hk_12 (by decide)) rfl rfl (ctX3_goesOn hl _ _ hq13) ⟨wl2 (i := 185) rfl rfl, ciX3_goesOn⟩ (wl2 (i := 44) rfl rfl) (wl2 (i := 45) rfl rfl) dX8_play_21 rfl rfl (Nat.le_of_ble_eq_true rfl) ⟨Nat.le_of_ble_eq_true rfl, Nat.le_of_ble_eq_true rfl⟩ ⟨Nat.le_of_ble_eq_true rfl, Nat.le_of_ble_eq_true rfl⟩ ?_
  refine aw_ifb_eq 39 dX8_play_24 (by decide) (fun c14 => ?_) (fun c14 => ?_)
  · rw [if_pos c14] at hf
    refine aw_null dX8_play_39 ?_
    refine aw_lv [1, 4, 0] rfl ?_
    refine aw_widen 4 24 (Nat.le_of_ble_eq_true rfl) (Nat.le_of_ble_eq_true rfl) ?_
    exact wkX8_play_40 hl _ _ _ _ _ hf
  · rw [if_neg c14] at hf
    refine aw_qload 0 dX8_play_27 rfl ?_
    refine th_getRN "AtariGarden" 2 6 inX3 hp11 hk_12 rfl ⟨by decide, by decide, rfl⟩ (wm2 (i := 138) rfl) dX8_play_29 ?_
    refine aw_iload_n 3 dX8_play_32 rfl ?_
    obtain ⟨p15, hp15, hf⟩ := xbind hf
    obtain ⟨hk_16, hf⟩ := xifn hf
    obtain ⟨q17, hq17, hf⟩ := xbind hf
    refine aw_callV 3 (t_R a_9 p11 6) [.int a2] 1 hp15 (thC_ob (h := a_9) hk_16 (by decide)) rfl rfl (ctX4_withStone hl _ _ _ hq17) ⟨wl2 (i := 186) rfl rfl, ciX4_withStone⟩ (wl2 (i := 187) rfl rfl) (wl2 (i := 188) rfl rfl) dX8_play_33 rfl rfl (Nat.le_of_ble_eq_true rfl) ⟨Nat.le_of_ble_eq_true rfl, Nat.le_of_ble_eq_true rfl⟩ ⟨Nat.le_of_ble_eq_true rfl, Nat.le_of_ble_eq_true rfl⟩ ?_
    refine aw_goto 40 dX8_play_36 (by decide) ?_
    refine aw_lv [1, 4, 0] rfl ?_
    exact wkX8_play_40 hl _ _ _ _ _ hf
abbrev MX8_player : xM := (RX8, cX8_player, 3, (some .int), "player")
abbrev rmX8_player : Room := { frames := 7, cells := 2, slots := 12, locals := 112 }
theorem ciX8_player : Cond.code yX8_player cX8_player 3 (some .int) ∈ wt ∧ Cond.initialized yX8_player.cls ∈ wt ∧ (yX8_player.cls ≠ "java/lang/invoke/MethodHandle" ∧ yX8_player.cls ≠ "java/lang/invoke/VarHandle" ∧ (parseMethodDescriptor yX8_player.desc).map (fun d => d.parameters.length) = some 1) := ⟨wl1 (i := 138) rfl rfl, wl1 (i := 1) rfl rfl, by decide +kernel, by decide +kernel, by decide +kernel⟩
def fX8_player (h : TH) (t : Nat) (a1 : Int32) : Option ((Int32 × TH) ⊕ (String × TH)) :=
  (fX8_requireRange h a1 (0 : Int32) (20 : Int32)).bind fun q1 => xcs q1 fun a_2 => (if t_kd a_2 t = 7 then (t_R a_2 t 0).bind fun p5 => (if t_kd a_2 p5 = 2 then (fX2_enrol a_2 p5 a1).bind fun q7 => (if 0 ≤ q7.1 then some (.inl (q7.1, q7.2)) else some (.inr ("java/lang/IllegalStateException", q7.2))) else none) else none)
set_option maxHeartbeats 4000000 in
set_option maxRecDepth 100000 in
theorem ctX8_player {l : Launch} {g : xG} (hl : l.stackTraces = false) {r : (Int32 × TH) ⊕ (String × TH)} (h : TH) (t : Nat) (a1 : Int32) (hf : fX8_player h t a1 = some r) : CT yX8_player MX8_player rmX8_player l g [va_rf (some t), .int a1] (thE g h) (oI r) (thE g (hP r)) := by
  rw [fX8_player] at hf
  refine CT.of (lv0 := [(0, va_rf (some t)), (1, .int a1)]) (by decide +kernel) rfl rfl (by simp [lg_sl, cat_q, cat_i, cat_l, cat_r]) (by simp [lv_args, cat_q, cat_i, cat_l, cat_r]) hl ?_
  refine aw_iload_n 1 dX8_player_0 rfl ?_
  refine aw_iconst (0 : Int32) dX8_player_1 (by decide) ?_
  refine aw_bipush (20 : Int32) dX8_player_2 (by decide) ?_
  obtain ⟨q1, hq1, hf⟩ := xbind hf
  rcases q1 with a_2 | e_3
  rotate_left
  · cases hf
    exact aw_thrS (M := MX8_player) (pc := 4) [.int a1, .int (0 : Int32), .int (20 : Int32)] 3 (ctX8_requireRange hl _ _ _ _ hq1) ⟨wl1 (i := 139) rfl rfl, ciX8_requireRange⟩ (wl1 (i := 140) rfl rfl) dX8_player_4 rfl rfl (Nat.le_of_ble_eq_true rfl) ⟨Nat.le_of_ble_eq_true rfl, Nat.le_of_ble_eq_true rfl⟩ ⟨Nat.le_of_ble_eq_true rfl, Nat.le_of_ble_eq_true rfl⟩
  have hf := xcs_l hf
  refine aw_callS [.int a1, .int (0 : Int32), .int (20 : Int32)] 3 (ctX8_requireRange hl _ _ _ _ hq1) ⟨wl1 (i := 139) rfl rfl, ciX8_requireRange⟩ (wl1 (i := 140) rfl rfl) dX8_player_4 rfl rfl (Nat.le_of_ble_eq_true rfl) ⟨Nat.le_of_ble_eq_true rfl, Nat.le_of_ble_eq_true rfl⟩ ⟨Nat.le_of_ble_eq_true rfl, Nat.le_of_ble_eq_true rfl⟩ ?_
  refine aw_qload_n 0 dX8_player_7 rfl ?_
  obtain ⟨hk_4, hf⟩ := xifn hf
  refine th_getR 6 0 inX8 rfl hk_4 rfl ⟨by decide, by decide, rfl⟩ (wl1 (i := 73) rfl rfl) dX8_player_8 ?_
  refine aw_iload_n 1 dX8_player_11 rfl ?_
  obtain ⟨p5, hp5, hf⟩ := xbind hf
  obtain ⟨hk_6, hf⟩ := xifn hf
  obtain ⟨q7, hq7, hf⟩ := xbind hf
  refine aw_callV 1 (t_R a_2 t 0) [.int a1] 1 hp5 (thC_ob (h := a_2) hk_6 (by decide)) rfl rfl (ctX2_enrol hl _ _ _ hq7) ⟨wl1 (i := 210) rfl rfl, ciX2_enrol⟩ (wl1 (i := 211) rfl rfl) (wl1 (i := 212) rfl rfl) dX8_player_12 rfl rfl (Nat.le_of_ble_eq_true rfl) ⟨Nat.le_of_ble_eq_true rfl, Nat.le_of_ble_eq_true rfl⟩ ⟨Nat.le_of_ble_eq_true rfl, Nat.le_of_ble_eq_true rfl⟩ ?_
  refine aw_istore_n [(2, .int q7.1), (0, va_rf (some t)), (1, .int a1)] dX8_player_15 rfl (by decide) rfl ?_
  refine aw_iload_n 0 dX8_player_16 rfl ?_
  refine aw_if_ge 30 dX8_player_17 (by decide) (fun c8 => ?_) (fun c8 => ?_)
  · rw [if_pos c8] at hf
    refine aw_iload_n 0 dX8_player_30 rfl ?_
    cases hf
    exact aw_iret dX8_player_31 rfl rfl rfl ⟨Nat.le_of_ble_eq_true rfl, Nat.le_of_ble_eq_true rfl⟩
  · rw [if_neg c8] at hf
    cases hf
    exact aw_throw (M := MX8_player) (pc := 20) (names := xRTE) rfl (by decide +kernel) xRTE_fit (wl1 (i := 214) rfl rfl) (wl1 (i := 12) rfl rfl) (wm1 (i := 223) rfl) xAt_35 xGd_35 dX8_player_20 dX8_player_23 dX8_player_24 dX8_player_26 dX8_player_29 (Nat.le_of_ble_eq_true rfl) ⟨by decide, by decide⟩ ⟨Nat.le_of_ble_eq_true rfl, Nat.le_of_ble_eq_true rfl⟩
abbrev MX8_rank : xM := (RX8, cX8_rank, 2, (some .int), "rank")
abbrev rmX8_rank : Room := { frames := 7, cells := 1, slots := 6, locals := 111 }
theorem ciX8_rank : Cond.code yX8_rank cX8_rank 2 (some .int) ∈ wt ∧ Cond.initialized yX8_rank.cls ∈ wt ∧ (yX8_rank.cls ≠ "java/lang/invoke/MethodHandle" ∧ yX8_rank.cls ≠ "java/lang/invoke/VarHandle" ∧ (parseMethodDescriptor yX8_rank.desc).map (fun d => d.parameters.length) = some 1) := ⟨wl3 (i := 204) rfl rfl, wl1 (i := 1) rfl rfl, by decide +kernel, by decide +kernel, by decide +kernel⟩
def fX8_rank (h : TH) (t : Nat) (a1 : Int32) : Option ((Int32 × TH) ⊕ (String × TH)) :=
  (if t_kd h t = 7 then (fX8_requirePlayer h t a1).bind fun q2 => xcs q2 fun a_3 => (if t_kd a_3 t = 7 then (t_R a_3 t 0).bind fun p6 => (if t_kd a_3 p6 = 2 then (fX2_standing a_3 p6 a1 (t_I a_3 p6 5)).bind fun q8 => some (.inl (q8, a_3)) else none) else none) else none)
set_option maxHeartbeats 4000000 in
set_option maxRecDepth 100000 in
theorem ctX8_rank {l : Launch} {g : xG} (hl : l.stackTraces = false) {r : (Int32 × TH) ⊕ (String × TH)} (h : TH) (t : Nat) (a1 : Int32) (hf : fX8_rank h t a1 = some r) : CT yX8_rank MX8_rank rmX8_rank l g [va_rf (some t), .int a1] (thE g h) (oI r) (thE g (hP r)) := by
  rw [fX8_rank] at hf
  refine CT.of (lv0 := [(0, va_rf (some t)), (1, .int a1)]) (by decide +kernel) rfl rfl (by simp [lg_sl, cat_q, cat_i, cat_l, cat_r]) (by simp [lv_args, cat_q, cat_i, cat_l, cat_r]) hl ?_
  refine aw_qload_n 0 dX8_rank_0 rfl ?_
  refine aw_iload_n 1 dX8_rank_1 rfl ?_
  obtain ⟨hk_1, hf⟩ := xifn hf
  obtain ⟨q2, hq2, hf⟩ := xbind hf
  rcases q2 with a_3 | e_4
  rotate_left
  · cases hf
    exact aw_thrV (M := MX8_rank) (pc := 2) 6 (some t) [.int a1] 1 rfl (thC_ob (h := h) hk_1 (by decide)) rfl rfl (ctX8_requirePlayer hl _ _ _ hq2) ⟨wl1 (i := 234) rfl rfl, ciX8_requirePlayer⟩ (wl1 (i := 236) rfl rfl) (wl0 (i := 4) rfl rfl) dX8_rank_2 rfl rfl (Nat.le_of_ble_eq_true rfl) ⟨Nat.le_of_ble_eq_true rfl, Nat.le_of_ble_eq_true rfl⟩ ⟨Nat.le_of_ble_eq_true rfl, Nat.le_of_ble_eq_true rfl⟩
  have hf := xcs_l hf
  refine aw_callV 6 (some t) [.int a1] 1 rfl (thC_ob (h := h) hk_1 (by decide)) rfl rfl (ctX8_requirePlayer hl _ _ _ hq2) ⟨wl1 (i := 234) rfl rfl, ciX8_requirePlayer⟩ (wl1 (i := 236) rfl rfl) (wl0 (i := 4) rfl rfl) dX8_rank_2 rfl rfl (Nat.le_of_ble_eq_true rfl) ⟨Nat.le_of_ble_eq_true rfl, Nat.le_of_ble_eq_true rfl⟩ ⟨Nat.le_of_ble_eq_true rfl, Nat.le_of_ble_eq_true rfl⟩ ?_
  refine aw_qload_n 0 dX8_rank_5 rfl ?_
  obtain ⟨hk_5, hf⟩ := xifn hf
  refine th_getR 6 0 inX8 rfl hk_5 rfl ⟨by decide, by decide, rfl⟩ (wl1 (i := 73) rfl rfl) dX8_rank_6 ?_
  refine aw_iload_n 1 dX8_rank_9 rfl ?_
  refine aw_qload_n 0 dX8_rank_10 rfl ?_
  refine th_getR 6 0 inX8 rfl hk_5 rfl ⟨by decide, by decide, rfl⟩ (wl1 (i := 73) rfl rfl) dX8_rank_11 ?_
  obtain ⟨p6, hp6, hf⟩ := xbind hf
  obtain ⟨hk_7, hf⟩ := xifn hf
  refine th_getIN "AtariGarden" 1 5 inX2 hp6 hk_7 rfl ⟨by decide, by decide, rfl⟩ (wm1 (i := 39) rfl) dX8_rank_14 ?_
  obtain ⟨q8, hq8, hf⟩ := xbind hf
  refine aw_callV 1 (t_R a_3 t 0) [.int a1, .int (t_I a_3 p6 5)] 2 hp6 (thC_ob (h := a_3) hk_7 (by decide)) rfl rfl (ctX2_standing hl _ _ _ _ hq8) ⟨wl3 (i := 205) rfl rfl, ciX2_standing⟩ (wl1 (i := 105) rfl rfl) (wl1 (i := 106) rfl rfl) dX8_rank_17 rfl rfl (Nat.le_of_ble_eq_true rfl) ⟨Nat.le_of_ble_eq_true rfl, Nat.le_of_ble_eq_true rfl⟩ ⟨Nat.le_of_ble_eq_true rfl, Nat.le_of_ble_eq_true rfl⟩ ?_
  cases hf
  exact aw_iret dX8_rank_20 rfl rfl rfl ⟨Nat.le_of_ble_eq_true rfl, Nat.le_of_ble_eq_true rfl⟩
abbrev MX8_resign : xM := (RX8, cX8_resign, 3, (some .int), "resign")
abbrev rmX8_resign : Room := { frames := 7, cells := 2, slots := 12, locals := 112 }
theorem ciX8_resign : Cond.code yX8_resign cX8_resign 3 (some .int) ∈ wt ∧ Cond.initialized yX8_resign.cls ∈ wt ∧ (yX8_resign.cls ≠ "java/lang/invoke/MethodHandle" ∧ yX8_resign.cls ≠ "java/lang/invoke/VarHandle" ∧ (parseMethodDescriptor yX8_resign.desc).map (fun d => d.parameters.length) = some 1) := ⟨wl3 (i := 26) rfl rfl, wl1 (i := 1) rfl rfl, by decide +kernel, by decide +kernel, by decide +kernel⟩
def fX8_resign (h : TH) (t : Nat) (a1 : Int32) : Option ((Int32 × TH) ⊕ (String × TH)) :=
  (if t_kd h t = 7 then (fX8_matchOf h t a1).bind fun q2 => xcs q2 fun a_3 => (fX8_requireGoesOn a_3.2 a_3.1).bind fun q5 => xcs q5 fun a_6 => (if t_kd a_6 t = 7 then a_3.1.bind fun p9 => (if t_kd a_6 p9 = 3 then (fX3_wonAgainstMover a_6 p9).bind fun q11 => (t_R a_6 t 0).bind fun p12 => (if t_kd a_6 p12 = 2 then (fX2_end a_6 p12 a_3.1 q11).bind fun q14 => (if t_kd q14 p9 = 3 then (fX3_told q14 p9).bind fun q16 => some (.inl (q16, q14)) else none) else none) else none) else none) else none)
set_option maxHeartbeats 4000000 in
set_option maxRecDepth 100000 in
theorem ctX8_resign {l : Launch} {g : xG} (hl : l.stackTraces = false) {r : (Int32 × TH) ⊕ (String × TH)} (h : TH) (t : Nat) (a1 : Int32) (hf : fX8_resign h t a1 = some r) : CT yX8_resign MX8_resign rmX8_resign l g [va_rf (some t), .int a1] (thE g h) (oI r) (thE g (hP r)) := by
  rw [fX8_resign] at hf
  refine CT.of (lv0 := [(0, va_rf (some t)), (1, .int a1)]) (by decide +kernel) rfl rfl (by simp [lg_sl, cat_q, cat_i, cat_l, cat_r]) (by simp [lv_args, cat_q, cat_i, cat_l, cat_r]) hl ?_
  refine aw_qload_n 0 dX8_resign_0 rfl ?_
  refine aw_iload_n 1 dX8_resign_1 rfl ?_
  obtain ⟨hk_1, hf⟩ := xifn hf
  obtain ⟨q2, hq2, hf⟩ := xbind hf
  rcases q2 with a_3 | e_4
  rotate_left
  · cases hf
    exact aw_thrV (M := MX8_resign) (pc := 2) 6 (some t) [.int a1] 1 rfl (thC_ob (h := h) hk_1 (by decide)) rfl rfl (ctX8_matchOf hl _ _ _ hq2) ⟨wl2 (i := 172) rfl rfl, ciX8_matchOf⟩ (wl2 (i := 174) rfl rfl) (wl0 (i := 8) rfl rfl) dX8_resign_2 rfl rfl (Nat.le_of_ble_eq_true rfl) ⟨Nat.le_of_ble_eq_true rfl, Nat.le_of_ble_eq_true rfl⟩ ⟨Nat.le_of_ble_eq_true rfl, Nat.le_of_ble_eq_true rfl⟩
  have hf := xcs_l hf
  refine aw_callV 6 (some t) [.int a1] 1 rfl (thC_ob (h := h) hk_1 (by decide)) rfl rfl (ctX8_matchOf hl _ _ _ hq2) ⟨wl2 (i := 172) rfl rfl, ciX8_matchOf⟩ (wl2 (i := 174) rfl rfl) (wl0 (i := 8) rfl rfl) dX8_resign_2 rfl rfl (Nat.le_of_ble_eq_true rfl) ⟨Nat.le_of_ble_eq_true rfl, Nat.le_of_ble_eq_true rfl⟩ ⟨Nat.le_of_ble_eq_true rfl, Nat.le_of_ble_eq_true rfl⟩ ?_
  refine aw_qstore_n [(2, va_rf a_3.1), (0, va_rf (some t)), (1, .int a1)] dX8_resign_5 rfl (by decide) rfl ?_
  refine aw_qload_n 0 dX8_resign_6 rfl ?_
  obtain ⟨q5, hq5, hf⟩ := xbind hf
  rcases q5 with a_6 | e_7
  rotate_left
  · cases hf
    exact aw_thrS (M := MX8_resign) (pc := 7) [va_rf a_3.1] 1 (ctX8_requireGoesOn hl _ _ hq5) ⟨wl2 (i := 234) rfl rfl, ciX8_requireGoesOn⟩ (wl2 (i := 235) rfl rfl) dX8_resign_7 rfl rfl (Nat.le_of_ble_eq_true rfl) ⟨Nat.le_of_ble_eq_true rfl, Nat.le_of_ble_eq_true rfl⟩ ⟨Nat.le_of_ble_eq_true rfl, Nat.le_of_ble_eq_true rfl⟩
  have hf := xcs_l hf
  refine aw_callS [va_rf a_3.1] 1 (ctX8_requireGoesOn hl _ _ hq5) ⟨wl2 (i := 234) rfl rfl, ciX8_requireGoesOn⟩ (wl2 (i := 235) rfl rfl) dX8_resign_7 rfl rfl (Nat.le_of_ble_eq_true rfl) ⟨Nat.le_of_ble_eq_true rfl, Nat.le_of_ble_eq_true rfl⟩ ⟨Nat.le_of_ble_eq_true rfl, Nat.le_of_ble_eq_true rfl⟩ ?_
  refine aw_qload_n 1 dX8_resign_10 rfl ?_
  obtain ⟨hk_8, hf⟩ := xifn hf
  refine th_getR 6 0 inX8 rfl hk_8 rfl ⟨by decide, by decide, rfl⟩ (wl1 (i := 73) rfl rfl) dX8_resign_11 ?_
  refine aw_qload_n 0 dX8_resign_14 rfl ?_
  refine aw_qload_n 0 dX8_resign_15 rfl ?_
  obtain ⟨p9, hp9, hf⟩ := xbind hf
  obtain ⟨hk_10, hf⟩ := xifn hf
  obtain ⟨q11, hq11, hf⟩ := xbind hf
  refine aw_callV 2 a_3.1 [] 0 hp9 (thC_ob (h := a_6) hk_10 (by decide)) rfl rfl (ctX3_wonAgainstMover hl _ _ hq11) ⟨wl3 (i := 27) rfl rfl, ciX3_wonAgainstMover⟩ (wl2 (i := 219) rfl rfl) (wl2 (i := 220) rfl rfl) dX8_resign_16 rfl rfl (by simp [cat_q, cat_i, cat_l, cat_r]) ⟨Nat.le_of_ble_eq_true rfl, Nat.le_of_ble_eq_true rfl⟩ ⟨Nat.le_of_ble_eq_true rfl, Nat.le_of_ble_eq_true rfl⟩ ?_
  obtain ⟨p12, hp12, hf⟩ := xbind hf
  obtain ⟨hk_13, hf⟩ := xifn hf
  obtain ⟨q14, hq14, hf⟩ := xbind hf
  refine aw_callV 1 (t_R a_6 t 0) [va_rf a_3.1, .int q11] 2 hp12 (thC_ob (h := a_6) hk_13 (by decide)) rfl rfl (ctX2_end hl _ _ _ _ hq14) ⟨wl3 (i := 28) rfl rfl, ciX2_end⟩ (wl2 (i := 223) rfl rfl) (wl2 (i := 224) rfl rfl) dX8_resign_19 rfl rfl (Nat.le_of_ble_eq_true rfl) ⟨Nat.le_of_ble_eq_true rfl, Nat.le_of_ble_eq_true rfl⟩ ⟨Nat.le_of_ble_eq_true rfl, Nat.le_of_ble_eq_true rfl⟩ ?_
  refine aw_qload_n 0 dX8_resign_22 rfl ?_
  obtain ⟨hk_15, hf⟩ := xifn hf
  obtain ⟨q16, hq16, hf⟩ := xbind hf
  refine aw_callV 2 a_3.1 [] 0 hp9 (thC_ob (h := q14) hk_15 (by decide)) rfl rfl (ctX3_told hl _ _ hq16) ⟨wl3 (i := 19) rfl rfl, ciX3_told⟩ (wl3 (i := 20) rfl rfl) (wl3 (i := 21) rfl rfl) dX8_resign_23 rfl rfl (Nat.le_of_ble_eq_true rfl) ⟨Nat.le_of_ble_eq_true rfl, Nat.le_of_ble_eq_true rfl⟩ ⟨Nat.le_of_ble_eq_true rfl, Nat.le_of_ble_eq_true rfl⟩ ?_
  cases hf
  exact aw_iret dX8_resign_26 rfl rfl rfl ⟨Nat.le_of_ble_eq_true rfl, Nat.le_of_ble_eq_true rfl⟩
abbrev MX8_score : xM := (RX8, cX8_score, 2, (some .int), "score")
abbrev rmX8_score : Room := { frames := 7, cells := 1, slots := 6, locals := 112 }
theorem ciX8_score : Cond.code yX8_score cX8_score 2 (some .int) ∈ wt ∧ Cond.initialized yX8_score.cls ∈ wt ∧ (yX8_score.cls ≠ "java/lang/invoke/MethodHandle" ∧ yX8_score.cls ≠ "java/lang/invoke/VarHandle" ∧ (parseMethodDescriptor yX8_score.desc).map (fun d => d.parameters.length) = some 1) := ⟨wl3 (i := 235) rfl rfl, wl1 (i := 1) rfl rfl, by decide +kernel, by decide +kernel, by decide +kernel⟩
def fX8_score (h : TH) (t : Nat) (a1 : Int32) : Option ((Int32 × TH) ⊕ (String × TH)) :=
  (if t_kd h t = 7 then (fX8_matchOf h t a1).bind fun q2 => xcs q2 fun a_3 => a_3.1.bind fun p5 => (if t_kd a_3.2 p5 = 3 then (fX3_lead a_3.2 p5).bind fun q7 => some (.inl (q7, a_3.2)) else none) else none)
set_option maxHeartbeats 4000000 in
set_option maxRecDepth 100000 in
theorem ctX8_score {l : Launch} {g : xG} (hl : l.stackTraces = false) {r : (Int32 × TH) ⊕ (String × TH)} (h : TH) (t : Nat) (a1 : Int32) (hf : fX8_score h t a1 = some r) : CT yX8_score MX8_score rmX8_score l g [va_rf (some t), .int a1] (thE g h) (oI r) (thE g (hP r)) := by
  rw [fX8_score] at hf
  refine CT.of (lv0 := [(0, va_rf (some t)), (1, .int a1)]) (by decide +kernel) rfl rfl (by simp [lg_sl, cat_q, cat_i, cat_l, cat_r]) (by simp [lv_args, cat_q, cat_i, cat_l, cat_r]) hl ?_
  refine aw_qload_n 0 dX8_score_0 rfl ?_
  refine aw_iload_n 1 dX8_score_1 rfl ?_
  obtain ⟨hk_1, hf⟩ := xifn hf
  obtain ⟨q2, hq2, hf⟩ := xbind hf
  rcases q2 with a_3 | e_4
  rotate_left
  · cases hf
    exact aw_thrV (M := MX8_score) (pc := 2) 6 (some t) [.int a1] 1 rfl (thC_ob (h := h) hk_1 (by decide)) rfl rfl (ctX8_matchOf hl _ _ _ hq2) ⟨wl2 (i := 172) rfl rfl, ciX8_matchOf⟩ (wl2 (i := 174) rfl rfl) (wl0 (i := 8) rfl rfl) dX8_score_2 rfl rfl (Nat.le_of_ble_eq_true rfl) ⟨Nat.le_of_ble_eq_true rfl, Nat.le_of_ble_eq_true rfl⟩ ⟨Nat.le_of_ble_eq_true rfl, Nat.le_of_ble_eq_true rfl⟩
  have hf := xcs_l hf
  refine aw_callV 6 (some t) [.int a1] 1 rfl (thC_ob (h := h) hk_1 (by decide)) rfl rfl (ctX8_matchOf hl _ _ _ hq2) ⟨wl2 (i := 172) rfl rfl, ciX8_matchOf⟩ (wl2 (i := 174) rfl rfl) (wl0 (i := 8) rfl rfl) dX8_score_2 rfl rfl (Nat.le_of_ble_eq_true rfl) ⟨Nat.le_of_ble_eq_true rfl, Nat.le_of_ble_eq_true rfl⟩ ⟨Nat.le_of_ble_eq_true rfl, Nat.le_of_ble_eq_true rfl⟩ ?_
  obtain ⟨p5, hp5, hf⟩ := xbind hf
  obtain ⟨hk_6, hf⟩ := xifn hf
  obtain ⟨q7, hq7, hf⟩ := xbind hf
  refine aw_callV 2 a_3.1 [] 0 hp5 (thC_ob (h := a_3.2) hk_6 (by decide)) rfl rfl (ctX3_lead hl _ _ hq7) ⟨wl3 (i := 236) rfl rfl, ciX3_lead⟩ (wl3 (i := 12) rfl rfl) (wl3 (i := 13) rfl rfl) dX8_score_5 rfl rfl (Nat.le_of_ble_eq_true rfl) ⟨Nat.le_of_ble_eq_true rfl, Nat.le_of_ble_eq_true rfl⟩ ⟨Nat.le_of_ble_eq_true rfl, Nat.le_of_ble_eq_true rfl⟩ ?_
  cases hf
  exact aw_iret dX8_score_8 rfl rfl rfl ⟨Nat.le_of_ble_eq_true rfl, Nat.le_of_ble_eq_true rfl⟩
abbrev MX8_settle : xM := (RX8, cX8_settle, 1, (some .int), "settle")
abbrev rmX8_settle : Room := { frames := 7, cells := 0, slots := 0, locals := 161 }
theorem ciX8_settle : Cond.code yX8_settle cX8_settle 1 (some .int) ∈ wt ∧ Cond.initialized yX8_settle.cls ∈ wt ∧ (yX8_settle.cls ≠ "java/lang/invoke/MethodHandle" ∧ yX8_settle.cls ≠ "java/lang/invoke/VarHandle" ∧ (parseMethodDescriptor yX8_settle.desc).map (fun d => d.parameters.length) = some 0) := ⟨wl1 (i := 83) rfl rfl, wl1 (i := 1) rfl rfl, by decide +kernel, by decide +kernel, by decide +kernel⟩
def fX8_settle (h : TH) (t : Nat) : Option (Int32 × TH) :=
  (if t_kd h t = 7 then (t_R h t 0).bind fun p2 => (if t_kd h p2 = 2 then (fX2_annulWhileOff h p2).bind fun q4 => some (q4.1, q4.2) else none) else none)
set_option maxHeartbeats 4000000 in
set_option maxRecDepth 100000 in
theorem ctX8_settle {l : Launch} {g : xG} (hl : l.stackTraces = false) {r : Int32 × TH} (h : TH) (t : Nat) (hf : fX8_settle h t = some r) : CT yX8_settle MX8_settle rmX8_settle l g [va_rf (some t)] (thE g h) (.inl (some (.int r.1))) (thE g r.2) := by
  rw [fX8_settle] at hf
  refine CT.of (lv0 := [(0, va_rf (some t))]) (by decide +kernel) rfl rfl (by simp [lg_sl, cat_q, cat_i, cat_l, cat_r]) (by simp [lv_args, cat_q, cat_i, cat_l, cat_r]) hl ?_
  refine aw_qload_n 0 dX8_settle_0 rfl ?_
  obtain ⟨hk_1, hf⟩ := xifn hf
  refine th_getR 6 0 inX8 rfl hk_1 rfl ⟨by decide, by decide, rfl⟩ (wl1 (i := 73) rfl rfl) dX8_settle_1 ?_
  obtain ⟨p2, hp2, hf⟩ := xbind hf
  obtain ⟨hk_3, hf⟩ := xifn hf
  obtain ⟨q4, hq4, hf⟩ := xbind hf
  refine aw_callV 1 (t_R h t 0) [] 0 hp2 (thC_ob (h := h) hk_3 (by decide)) rfl rfl (ctX2_annulWhileOff hl _ _ hq4) ⟨wl1 (i := 84) rfl rfl, ciX2_annulWhileOff⟩ (wl1 (i := 85) rfl rfl) (wl1 (i := 86) rfl rfl) dX8_settle_4 rfl rfl (Nat.le_of_ble_eq_true rfl) ⟨Nat.le_of_ble_eq_true rfl, Nat.le_of_ble_eq_true rfl⟩ ⟨Nat.le_of_ble_eq_true rfl, Nat.le_of_ble_eq_true rfl⟩ ?_
  cases hf
  exact aw_iret dX8_settle_7 rfl rfl rfl ⟨Nat.le_of_ble_eq_true rfl, Nat.le_of_ble_eq_true rfl⟩
abbrev MX8_sign : xM := (RX8, cX8_sign, 4, (some .char), "sign")
abbrev rmX8_sign : Room := { frames := 7, cells := 2, slots := 12, locals := 112 }
theorem ciX8_sign : Cond.code yX8_sign cX8_sign 4 (some .char) ∈ wt ∧ Cond.initialized yX8_sign.cls ∈ wt ∧ (yX8_sign.cls ≠ "java/lang/invoke/MethodHandle" ∧ yX8_sign.cls ≠ "java/lang/invoke/VarHandle" ∧ (parseMethodDescriptor yX8_sign.desc).map (fun d => d.parameters.length) = some 2) := ⟨wl3 (i := 217) rfl rfl, wl1 (i := 1) rfl rfl, by decide +kernel, by decide +kernel, by decide +kernel⟩
def fX8_sign (h : TH) (t : Nat) (a1 : Int32) (a2 : Int32) : Option ((Int32 × TH) ⊕ (String × TH)) :=
  (if t_kd h t = 7 then (fX8_matchOf h t a1).bind fun q2 => xcs q2 fun a_3 => (fX8_requirePoint a_3.2 a2).bind fun q5 => xcs q5 fun a_6 => a_3.1.bind fun p8 => (if t_kd a_6 p8 = 3 then (t_R a_6 p8 6).bind fun p10 => (if t_kd a_6 p10 = 4 then (fX4_signAt a_6 p10 a2).bind fun q12 => (xchar q12).bind fun b13 => some (.inl (b13, a_6)) else none) else none) else none)
set_option maxHeartbeats 4000000 in
set_option maxRecDepth 100000 in
theorem ctX8_sign {l : Launch} {g : xG} (hl : l.stackTraces = false) {r : (Int32 × TH) ⊕ (String × TH)} (h : TH) (t : Nat) (a1 : Int32) (a2 : Int32) (hf : fX8_sign h t a1 a2 = some r) : CT yX8_sign MX8_sign rmX8_sign l g [va_rf (some t), .int a1, .int a2] (thE g h) (oI r) (thE g (hP r)) := by
  rw [fX8_sign] at hf
  refine CT.of (lv0 := [(0, va_rf (some t)), (1, .int a1), (2, .int a2)]) (by decide +kernel) rfl rfl (by simp [lg_sl, cat_q, cat_i, cat_l, cat_r]) (by simp [lv_args, cat_q, cat_i, cat_l, cat_r]) hl ?_
  refine aw_qload_n 0 dX8_sign_0 rfl ?_
  refine aw_iload_n 1 dX8_sign_1 rfl ?_
  obtain ⟨hk_1, hf⟩ := xifn hf
  obtain ⟨q2, hq2, hf⟩ := xbind hf
  rcases q2 with a_3 | e_4
  rotate_left
  · cases hf
    exact aw_thrV (M := MX8_sign) (pc := 2) 6 (some t) [.int a1] 1 rfl (thC_ob (h := h) hk_1 (by decide)) rfl rfl (ctX8_matchOf hl _ _ _ hq2) ⟨wl2 (i := 172) rfl rfl, ciX8_matchOf⟩ (wl2 (i := 174) rfl rfl) (wl0 (i := 8) rfl rfl) dX8_sign_2 rfl rfl (Nat.le_of_ble_eq_true rfl) ⟨Nat.le_of_ble_eq_true rfl, Nat.le_of_ble_eq_true rfl⟩ ⟨Nat.le_of_ble_eq_true rfl, Nat.le_of_ble_eq_true rfl⟩
  have hf := xcs_l hf
  refine aw_callV 6 (some t) [.int a1] 1 rfl (thC_ob (h := h) hk_1 (by decide)) rfl rfl (ctX8_matchOf hl _ _ _ hq2) ⟨wl2 (i := 172) rfl rfl, ciX8_matchOf⟩ (wl2 (i := 174) rfl rfl) (wl0 (i := 8) rfl rfl) dX8_sign_2 rfl rfl (Nat.le_of_ble_eq_true rfl) ⟨Nat.le_of_ble_eq_true rfl, Nat.le_of_ble_eq_true rfl⟩ ⟨Nat.le_of_ble_eq_true rfl, Nat.le_of_ble_eq_true rfl⟩ ?_
  refine aw_qstore_n [(3, va_rf a_3.1), (0, va_rf (some t)), (1, .int a1), (2, .int a2)] dX8_sign_5 rfl (by decide) rfl ?_
  refine aw_iload_n 3 dX8_sign_6 rfl ?_
  obtain ⟨q5, hq5, hf⟩ := xbind hf
  rcases q5 with a_6 | e_7
  rotate_left
  · cases hf
    exact aw_thrS (M := MX8_sign) (pc := 7) [.int a2] 1 (ctX8_requirePoint hl _ _ hq5) ⟨wl2 (i := 181) rfl rfl, ciX8_requirePoint⟩ (wl2 (i := 182) rfl rfl) dX8_sign_7 rfl rfl (Nat.le_of_ble_eq_true rfl) ⟨Nat.le_of_ble_eq_true rfl, Nat.le_of_ble_eq_true rfl⟩ ⟨Nat.le_of_ble_eq_true rfl, Nat.le_of_ble_eq_true rfl⟩
  have hf := xcs_l hf
  refine aw_callS [.int a2] 1 (ctX8_requirePoint hl _ _ hq5) ⟨wl2 (i := 181) rfl rfl, ciX8_requirePoint⟩ (wl2 (i := 182) rfl rfl) dX8_sign_7 rfl rfl (Nat.le_of_ble_eq_true rfl) ⟨Nat.le_of_ble_eq_true rfl, Nat.le_of_ble_eq_true rfl⟩ ⟨Nat.le_of_ble_eq_true rfl, Nat.le_of_ble_eq_true rfl⟩ ?_
  refine aw_qload_n 0 dX8_sign_10 rfl ?_
  obtain ⟨p8, hp8, hf⟩ := xbind hf
  obtain ⟨hk_9, hf⟩ := xifn hf
  refine th_getRN "AtariGarden" 2 6 inX3 hp8 hk_9 rfl ⟨by decide, by decide, rfl⟩ (wm2 (i := 138) rfl) dX8_sign_11 ?_
  refine aw_iload_n 3 dX8_sign_14 rfl ?_
  obtain ⟨p10, hp10, hf⟩ := xbind hf
  obtain ⟨hk_11, hf⟩ := xifn hf
  obtain ⟨q12, hq12, hf⟩ := xbind hf
  refine aw_callV 3 (t_R a_6 p8 6) [.int a2] 1 hp10 (thC_ob (h := a_6) hk_11 (by decide)) rfl rfl (ctX4_signAt hl _ _ _ hq12) ⟨wl3 (i := 218) rfl rfl, ciX4_signAt⟩ (wl3 (i := 219) rfl rfl) (wl3 (i := 220) rfl rfl) dX8_sign_15 rfl rfl (Nat.le_of_ble_eq_true rfl) ⟨Nat.le_of_ble_eq_true rfl, Nat.le_of_ble_eq_true rfl⟩ ⟨Nat.le_of_ble_eq_true rfl, Nat.le_of_ble_eq_true rfl⟩ ?_
  obtain ⟨b13, hb13, hf⟩ := xbind hf
  cases hf
  exact aw_cretb dX8_sign_18 rfl hb13 rfl rfl ⟨Nat.le_of_ble_eq_true rfl, Nat.le_of_ble_eq_true rfl⟩
abbrev MX8_state : xM := (RX8, cX8_state, 2, (some .int), "state")
abbrev rmX8_state : Room := { frames := 7, cells := 1, slots := 6, locals := 112 }
theorem ciX8_state : Cond.code yX8_state cX8_state 2 (some .int) ∈ wt ∧ Cond.initialized yX8_state.cls ∈ wt ∧ (yX8_state.cls ≠ "java/lang/invoke/MethodHandle" ∧ yX8_state.cls ≠ "java/lang/invoke/VarHandle" ∧ (parseMethodDescriptor yX8_state.desc).map (fun d => d.parameters.length) = some 1) := ⟨wl3 (i := 209) rfl rfl, wl1 (i := 1) rfl rfl, by decide +kernel, by decide +kernel, by decide +kernel⟩
def fX8_state (h : TH) (t : Nat) (a1 : Int32) : Option ((Int32 × TH) ⊕ (String × TH)) :=
  (if t_kd h t = 7 then (fX8_matchOf h t a1).bind fun q2 => xcs q2 fun a_3 => a_3.1.bind fun p5 => (if t_kd a_3.2 p5 = 3 then (fX3_told a_3.2 p5).bind fun q7 => some (.inl (q7, a_3.2)) else none) else none)
set_option maxHeartbeats 4000000 in
set_option maxRecDepth 100000 in
theorem ctX8_state {l : Launch} {g : xG} (hl : l.stackTraces = false) {r : (Int32 × TH) ⊕ (String × TH)} (h : TH) (t : Nat) (a1 : Int32) (hf : fX8_state h t a1 = some r) : CT yX8_state MX8_state rmX8_state l g [va_rf (some t), .int a1] (thE g h) (oI r) (thE g (hP r)) := by
  rw [fX8_state] at hf
  refine CT.of (lv0 := [(0, va_rf (some t)), (1, .int a1)]) (by decide +kernel) rfl rfl (by simp [lg_sl, cat_q, cat_i, cat_l, cat_r]) (by simp [lv_args, cat_q, cat_i, cat_l, cat_r]) hl ?_
  refine aw_qload_n 0 dX8_state_0 rfl ?_
  refine aw_iload_n 1 dX8_state_1 rfl ?_
  obtain ⟨hk_1, hf⟩ := xifn hf
  obtain ⟨q2, hq2, hf⟩ := xbind hf
  rcases q2 with a_3 | e_4
  rotate_left
  · cases hf
    exact aw_thrV (M := MX8_state) (pc := 2) 6 (some t) [.int a1] 1 rfl (thC_ob (h := h) hk_1 (by decide)) rfl rfl (ctX8_matchOf hl _ _ _ hq2) ⟨wl2 (i := 172) rfl rfl, ciX8_matchOf⟩ (wl2 (i := 174) rfl rfl) (wl0 (i := 8) rfl rfl) dX8_state_2 rfl rfl (Nat.le_of_ble_eq_true rfl) ⟨Nat.le_of_ble_eq_true rfl, Nat.le_of_ble_eq_true rfl⟩ ⟨Nat.le_of_ble_eq_true rfl, Nat.le_of_ble_eq_true rfl⟩
  have hf := xcs_l hf
  refine aw_callV 6 (some t) [.int a1] 1 rfl (thC_ob (h := h) hk_1 (by decide)) rfl rfl (ctX8_matchOf hl _ _ _ hq2) ⟨wl2 (i := 172) rfl rfl, ciX8_matchOf⟩ (wl2 (i := 174) rfl rfl) (wl0 (i := 8) rfl rfl) dX8_state_2 rfl rfl (Nat.le_of_ble_eq_true rfl) ⟨Nat.le_of_ble_eq_true rfl, Nat.le_of_ble_eq_true rfl⟩ ⟨Nat.le_of_ble_eq_true rfl, Nat.le_of_ble_eq_true rfl⟩ ?_
  obtain ⟨p5, hp5, hf⟩ := xbind hf
  obtain ⟨hk_6, hf⟩ := xifn hf
  obtain ⟨q7, hq7, hf⟩ := xbind hf
  refine aw_callV 2 a_3.1 [] 0 hp5 (thC_ob (h := a_3.2) hk_6 (by decide)) rfl rfl (ctX3_told hl _ _ hq7) ⟨wl3 (i := 19) rfl rfl, ciX3_told⟩ (wl3 (i := 20) rfl rfl) (wl3 (i := 21) rfl rfl) dX8_state_5 rfl rfl (Nat.le_of_ble_eq_true rfl) ⟨Nat.le_of_ble_eq_true rfl, Nat.le_of_ble_eq_true rfl⟩ ⟨Nat.le_of_ble_eq_true rfl, Nat.le_of_ble_eq_true rfl⟩ ?_
  cases hf
  exact aw_iret dX8_state_8 rfl rfl rfl ⟨Nat.le_of_ble_eq_true rfl, Nat.le_of_ble_eq_true rfl⟩
