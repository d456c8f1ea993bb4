/-! The face's methods: they return (.inl) or throw (.inr). -/
def oV (r : TH ⊕ (String × TH)) : Option Value ⊕ String := match r with | .inl _ => .inl none | .inr e => .inr e.1
def oI (r : (Int32 × TH) ⊕ (String × TH)) : Option Value ⊕ String := match r with | .inl a => .inl (some (.int a.1)) | .inr e => .inr e.1
def oZ (r : (Bool × TH) ⊕ (String × TH)) : Option Value ⊕ String := match r with | .inl a => .inl (some (.int (bi a.1))) | .inr e => .inr e.1
def oQ (r : (Option Nat × TH) ⊕ (String × TH)) : Option Value ⊕ String := match r with | .inl a => .inl (some (va_rf a.1)) | .inr e => .inr e.1
def hV (r : TH ⊕ (String × TH)) : TH := match r with | .inl a => a | .inr e => e.2
def hP {α : Type} (r : (α × TH) ⊕ (String × TH)) : TH := match r with | .inl a => a.2 | .inr e => e.2
def xcs {α β : Type} (q : α ⊕ (String × TH)) (k : α → Option (β ⊕ (String × TH))) : Option (β ⊕ (String × TH)) := match q with | .inl a => k a | .inr e => some (.inr e)
theorem xcs_l {α β : Type} {a : α} {k : α → Option (β ⊕ (String × TH))} {r : β ⊕ (String × TH)} (h : xcs (.inl a) k = some r) : k a = some r := h
abbrev MX8_twigOf : xM := (RX8, cX8_twigOf, 3, (some (.object "AtariGarden$Twig")), "twigOf")
abbrev rmX8_twigOf : Room := { frames := 6, cells := 1, slots := 6, locals := 90 }
theorem ciX8_twigOf : Cond.code yX8_twigOf cX8_twigOf 3 (some (.object "AtariGarden$Twig")) ∈ wt ∧ Cond.initialized yX8_twigOf.cls ∈ wt ∧ (yX8_twigOf.cls ≠ "java/lang/invoke/MethodHandle" ∧ yX8_twigOf.cls ≠ "java/lang/invoke/VarHandle" ∧ (parseMethodDescriptor yX8_twigOf.desc).map (fun d => d.parameters.length) = some 1) := ⟨wl3 (i := 100) rfl rfl, wl1 (i := 1) rfl rfl, by decide +kernel, by decide +kernel, by decide +kernel⟩
def fX8_twigOf (h : TH) (t : Nat) (a1 : Int32) : Option ((Option Nat × TH) ⊕ (String × TH)) :=
  (if t_kd h t = 7 then (t_R h t 1).bind fun p2 => (if t_kd h p2 = 5 then (fX6_twigAt h p2 a1).bind fun q4 => (if q4 = none then some (.inr ("java/lang/IndexOutOfBoundsException", h)) else some (.inl (q4, h))) else none) else none)
set_option maxHeartbeats 4000000 in
set_option maxRecDepth 100000 in
theorem ctX8_twigOf {l : Launch} {g : xG} (hl : l.stackTraces = false) {r : (Option Nat × TH) ⊕ (String × TH)} (h : TH) (t : Nat) (a1 : Int32) (hf : fX8_twigOf h t a1 = some r) : CT yX8_twigOf MX8_twigOf rmX8_twigOf l g [va_rf (some t), .int a1] (thE g h) (oQ r) (thE g (hP r)) := by
  rw [fX8_twigOf] at hf
  refine CT.of (lv0 := [(0, va_rf (some t)), (1, .int a1)]) (by decide +kernel) rfl rfl (by simp [lg_sl, cat_q, cat_i, cat_l, cat_r]) (by simp [lv_args, cat_q, cat_i, cat_l, cat_r]) hl ?_
  refine aw_qload_n 0 dX8_twigOf_0 rfl ?_
  obtain ⟨hk_1, hf⟩ := xifn hf
  refine th_getR 6 1 inX8 rfl hk_1 rfl ⟨by decide, by decide, rfl⟩ (wl1 (i := 74) rfl rfl) dX8_twigOf_1 ?_
  refine aw_iload_n 1 dX8_twigOf_4 rfl ?_
  obtain ⟨p2, hp2, hf⟩ := xbind hf
  obtain ⟨hk_3, hf⟩ := xifn hf
  obtain ⟨q4, hq4, hf⟩ := xbind hf
  refine aw_callV 4 (t_R h t 1) [.int a1] 1 hp2 (thC_ob (h := h) hk_3 (by decide)) rfl rfl (ctX6_twigAt hl _ _ _ hq4) ⟨wl3 (i := 101) rfl rfl, ciX6_twigAt⟩ (wl3 (i := 102) rfl rfl) (wl3 (i := 103) rfl rfl) dX8_twigOf_5 rfl rfl (Nat.le_of_ble_eq_true rfl) ⟨Nat.le_of_ble_eq_true rfl, Nat.le_of_ble_eq_true rfl⟩ ⟨Nat.le_of_ble_eq_true rfl, Nat.le_of_ble_eq_true rfl⟩ ?_
  refine aw_qstore_n [(2, va_rf q4), (0, va_rf (some t)), (1, .int a1)] dX8_twigOf_8 rfl (by decide) rfl ?_
  refine aw_qload_n 0 dX8_twigOf_9 rfl ?_
  refine aw_ifnonnull 23 dX8_twigOf_10 (by decide) (fun c5 => ?_) (fun c5 => ?_)
  · rw [if_neg c5] at hf
    refine aw_qload_n 0 dX8_twigOf_23 rfl ?_
    cases hf
    exact aw_aret "AtariGarden$Twig" dX8_twigOf_24 rfl rfl rfl ⟨Nat.le_of_ble_eq_true rfl, Nat.le_of_ble_eq_true rfl⟩
  · rw [if_pos c5] at hf
    cases hf
    exact aw_throw (M := MX8_twigOf) (pc := 13) (names := xRTE) rfl (by decide +kernel) xRTE_fit (wl2 (i := 2) rfl rfl) (wl1 (i := 7) rfl rfl) (wm3 (i := 105) rfl) xAt_127 xGd_127 dX8_twigOf_13 dX8_twigOf_16 dX8_twigOf_17 dX8_twigOf_19 dX8_twigOf_22 (Nat.le_of_ble_eq_true rfl) ⟨by decide, by decide⟩ ⟨Nat.le_of_ble_eq_true rfl, Nat.le_of_ble_eq_true rfl⟩
abbrev MX8_requirePoint : xM := (RX8, cX8_requirePoint, 1, none, "requirePoint")
abbrev rmX8_requirePoint : Room := { frames := 6, cells := 1, slots := 6, locals := 90 }
theorem ciX8_requirePoint : Cond.code yX8_requirePoint cX8_requirePoint 1 none ∈ wt ∧ Cond.initialized yX8_requirePoint.cls ∈ wt ∧ (yX8_requirePoint.cls ≠ "java/lang/invoke/MethodHandle" ∧ yX8_requirePoint.cls ≠ "java/lang/invoke/VarHandle" ∧ (parseMethodDescriptor yX8_requirePoint.desc).map (fun d => d.parameters.length) = some 1) := ⟨wl2 (i := 183) rfl rfl, wl1 (i := 1) rfl rfl, by decide +kernel, by decide +kernel, by decide +kernel⟩
def fX8_requirePoint_10 (h : TH) : Option ((TH) ⊕ (String × TH)) :=
  some (.inr ("java/lang/IndexOutOfBoundsException", h))
set_option maxHeartbeats 4000000 in
set_option maxRecDepth 100000 in
theorem wkX8_requirePoint_10 {l : Launch} {g : xG} {x0 : xV} (hl : l.stackTraces = false) {r : (TH) ⊕ (String × TH)} (h : TH) (hf : fX8_requirePoint_10 h = some r) : AW MX8_requirePoint rmX8_requirePoint l g x0 (oV r) (thE g (hV r)) 0 0 (thE g h) 10 [] [] := by
  rw [fX8_requirePoint_10] at hf
  cases hf
  exact aw_throw (M := MX8_requirePoint) (pc := 10) (names := xRTE) rfl (by decide +kernel) xRTE_fit (wl2 (i := 2) rfl rfl) (wl1 (i := 7) rfl rfl) (wm2 (i := 184) rfl) xAt_127 xGd_127 dX8_requirePoint_10 dX8_requirePoint_13 dX8_requirePoint_14 dX8_requirePoint_16 dX8_requirePoint_19 (Nat.le_of_ble_eq_true rfl) ⟨by decide, by decide⟩ ⟨Nat.le_of_ble_eq_true rfl, Nat.le_of_ble_eq_true rfl⟩
def fX8_requirePoint (h : TH) (a0 : Int32) : Option ((TH) ⊕ (String × TH)) :=
  (if a0 < 0 then fX8_requirePoint_10 h else (if a0 < (49 : Int32) then some (.inl h) else fX8_requirePoint_10 h))
set_option maxHeartbeats 4000000 in
set_option maxRecDepth 100000 in
theorem ctX8_requirePoint {l : Launch} {g : xG} (hl : l.stackTraces = false) {r : (TH) ⊕ (String × TH)} (h : TH) (a0 : Int32) (hf : fX8_requirePoint h a0 = some r) : CT yX8_requirePoint MX8_requirePoint rmX8_requirePoint l g [.int a0] (thE g h) (oV r) (thE g (hV r)) := by
  rw [fX8_requirePoint] at hf
  refine CT.of (lv0 := [(0, .int a0)]) (by decide +kernel) rfl rfl (Nat.le_of_ble_eq_true rfl) rfl hl ?_
  refine aw_iload_n 0 dX8_requirePoint_0 rfl ?_
  refine aw_if_lt 10 dX8_requirePoint_1 (by decide) (fun c1 => ?_) (fun c1 => ?_)
  · rw [if_pos c1] at hf
    refine aw_lv [] rfl ?_
    exact wkX8_requirePoint_10 hl _ hf
  · rw [if_neg c1] at hf
    refine aw_iload_n 0 dX8_requirePoint_4 rfl ?_
    refine aw_bipush (49 : Int32) dX8_requirePoint_5 (by decide) ?_
    refine aw_icmp_lt 20 dX8_requirePoint_7 (by decide) (fun c2 => ?_) (fun c2 => ?_)
    · rw [if_pos c2] at hf
      cases hf
      exact aw_vret dX8_requirePoint_20 rfl rfl rfl ⟨Nat.le_of_ble_eq_true rfl, Nat.le_of_ble_eq_true rfl⟩
    · rw [if_neg c2] at hf
      refine aw_lv [] rfl ?_
      exact wkX8_requirePoint_10 hl _ hf
abbrev MX8_branch : xM := (RX8, cX8_branch, 5, (some .int), "branch")
abbrev rmX8_branch : Room := { frames := 7, cells := 6, slots := 36, locals := 139 }
theorem ciX8_branch : Cond.code yX8_branch cX8_branch 5 (some .int) ∈ wt ∧ Cond.initialized yX8_branch.cls ∈ wt ∧ (yX8_branch.cls ≠ "java/lang/invoke/MethodHandle" ∧ yX8_branch.cls ≠ "java/lang/invoke/VarHandle" ∧ (parseMethodDescriptor yX8_branch.desc).map (fun d => d.parameters.length) = some 2) := ⟨wl3 (i := 96) rfl rfl, wl1 (i := 1) rfl rfl, by decide +kernel, by decide +kernel, by decide +kernel⟩
def fX8_branch_15 (h : TH) (t : Nat) (a2 : Int32) (a3 : Option Nat) : Option ((Int32 × TH) ⊕ (String × TH)) :=
  (if t_kd h t = 7 then (t_R h t 1).bind fun p2 => (if t_kd h p2 = 5 then (fX6_childOrNew h p2 a3 a2).bind fun q4 => (if 0 ≤ q4.1 then some (.inl (q4.1, q4.2)) else some (.inr ("java/lang/IllegalStateException", q4.2))) else none) else none)
set_option maxHeartbeats 4000000 in
set_option maxRecDepth 100000 in
theorem wkX8_branch_15 {l : Launch} {g : xG} {x0 : xV} (hl : l.stackTraces = false) {r : (Int32 × TH) ⊕ (String × TH)} (h : TH) (t : Nat) (a2 : Int32) (a3 : Option Nat) (hf : fX8_branch_15 h t a2 a3 = some r) : AW MX8_branch rmX8_branch l g x0 (oI r) (thE g (hP r)) 2 12 (thE g h) 15 [(0, va_rf (some t)), (2, .int a2), (3, va_rf a3)] [] := by
  rw [fX8_branch_15] at hf
  refine aw_qload_n 0 dX8_branch_15 rfl ?_
  obtain ⟨hk_1, hf⟩ := xifn hf
  refine th_getR 6 1 inX8 rfl hk_1 rfl ⟨by decide, by decide, rfl⟩ (wl1 (i := 74) rfl rfl) dX8_branch_16 ?_
  refine aw_qload_n 2 dX8_branch_19 rfl ?_
  refine aw_iload_n 1 dX8_branch_20 rfl ?_
  obtain ⟨p2, hp2, hf⟩ := xbind hf
  obtain ⟨hk_3, hf⟩ := xifn hf
  obtain ⟨q4, hq4, hf⟩ := xbind hf
  refine aw_callV 4 (t_R h t 1) [va_rf a3, .int a2] 2 hp2 (thC_ob (h := h) hk_3 (by decide)) rfl rfl (ctX6_childOrNew hl _ _ _ _ hq4) ⟨wl3 (i := 106) rfl rfl, ciX6_childOrNew⟩ (wl3 (i := 107) rfl rfl) (wl3 (i := 108) rfl rfl) dX8_branch_21 rfl rfl (Nat.le_of_ble_eq_true rfl) ⟨Nat.le_of_ble_eq_true rfl, Nat.le_of_ble_eq_true rfl⟩ ⟨Nat.le_of_ble_eq_true rfl, Nat.le_of_ble_eq_true rfl⟩ ?_
  refine aw_istore [(4, .int q4.1), (0, va_rf (some t)), (2, .int a2), (3, va_rf a3)] dX8_branch_24 (by decide) (by simp [cat_q, cat_i, cat_l, cat_r]) ?_
  refine aw_iload 0 dX8_branch_26 rfl ?_
  refine aw_if_ge 41 dX8_branch_28 (by decide) (fun c5 => ?_) (fun c5 => ?_)
  · rw [if_pos c5] at hf
    refine aw_iload 0 dX8_branch_41 rfl ?_
    cases hf
    exact aw_iret dX8_branch_43 rfl rfl rfl ⟨Nat.le_of_ble_eq_true rfl, Nat.le_of_ble_eq_true rfl⟩
  · rw [if_neg c5] at hf
    cases hf
    exact aw_throw (M := MX8_branch) (pc := 31) (names := xRTE) rfl (by decide +kernel) xRTE_fit (wl1 (i := 214) rfl rfl) (wl1 (i := 12) rfl rfl) (wm3 (i := 120) rfl) xAt_35 xGd_35 dX8_branch_31 dX8_branch_34 dX8_branch_35 dX8_branch_37 dX8_branch_40 (Nat.le_of_ble_eq_true rfl) ⟨by decide, by decide⟩ ⟨Nat.le_of_ble_eq_true rfl, Nat.le_of_ble_eq_true rfl⟩
def fX8_branch (h : TH) (t : Nat) (a1 : Int32) (a2 : Int32) : Option ((Int32 × TH) ⊕ (String × TH)) :=
  (if t_kd h t = 7 then (fX8_twigOf h t a1).bind fun q2 => xcs q2 fun a_3 => (if a2 = (-1 : Int32) then fX8_branch_15 a_3.2 t a2 a_3.1 else (fX8_requirePoint a_3.2 a2).bind fun q6 => xcs q6 fun a_7 => fX8_branch_15 a_7 t a2 a_3.1) else none)
set_option maxHeartbeats 4000000 in
set_option maxRecDepth 100000 in
theorem ctX8_branch {l : Launch} {g : xG} (hl : l.stackTraces = false) {r : (Int32 × TH) ⊕ (String × TH)} (h : TH) (t : Nat) (a1 : Int32) (a2 : Int32) (hf : fX8_branch h t a1 a2 = some r) : CT yX8_branch MX8_branch rmX8_branch l g [va_rf (some t), .int a1, .int a2] (thE g h) (oI r) (thE g (hP r)) := by
  rw [fX8_branch] at hf
  refine CT.of (lv0 := [(0, va_rf (some t)), (1, .int a1), (2, .int a2)]) (by decide +kernel) rfl rfl (by simp [lg_sl, cat_q, cat_i, cat_l, cat_r]) (by simp [lv_args, cat_q, cat_i, cat_l, cat_r]) hl ?_
  refine aw_qload_n 0 dX8_branch_0 rfl ?_
  refine aw_iload_n 1 dX8_branch_1 rfl ?_
  obtain ⟨hk_1, hf⟩ := xifn hf
  obtain ⟨q2, hq2, hf⟩ := xbind hf
  rcases q2 with a_3 | e_4
  rotate_left
  · cases hf
    exact aw_thrV (M := MX8_branch) (pc := 2) 6 (some t) [.int a1] 1 rfl (thC_ob (h := h) hk_1 (by decide)) rfl rfl (ctX8_twigOf hl _ _ _ hq2) ⟨wl3 (i := 97) rfl rfl, ciX8_twigOf⟩ (wl3 (i := 99) rfl rfl) (wl0 (i := 11) rfl rfl) dX8_branch_2 rfl rfl (Nat.le_of_ble_eq_true rfl) ⟨Nat.le_of_ble_eq_true rfl, Nat.le_of_ble_eq_true rfl⟩ ⟨Nat.le_of_ble_eq_true rfl, Nat.le_of_ble_eq_true rfl⟩
  have hf := xcs_l hf
  refine aw_callV 6 (some t) [.int a1] 1 rfl (thC_ob (h := h) hk_1 (by decide)) rfl rfl (ctX8_twigOf hl _ _ _ hq2) ⟨wl3 (i := 97) rfl rfl, ciX8_twigOf⟩ (wl3 (i := 99) rfl rfl) (wl0 (i := 11) rfl rfl) dX8_branch_2 rfl rfl (Nat.le_of_ble_eq_true rfl) ⟨Nat.le_of_ble_eq_true rfl, Nat.le_of_ble_eq_true rfl⟩ ⟨Nat.le_of_ble_eq_true rfl, Nat.le_of_ble_eq_true rfl⟩ ?_
  refine aw_qstore_n [(3, va_rf a_3.1), (0, va_rf (some t)), (1, .int a1), (2, .int a2)] dX8_branch_5 rfl (by decide) rfl ?_
  refine aw_iload_n 3 dX8_branch_6 rfl ?_
  refine aw_iconst (-1 : Int32) dX8_branch_7 (by decide) ?_
  refine aw_icmp_eq 15 dX8_branch_8 (by decide) (fun c5 => ?_) (fun c5 => ?_)
  · rw [if_pos c5] at hf
    refine aw_lv [1, 3, 0] rfl ?_
    refine aw_widen 2 12 (Nat.le_of_ble_eq_true rfl) (Nat.le_of_ble_eq_true rfl) ?_
    exact wkX8_branch_15 hl _ _ _ _ hf
  · rw [if_neg c5] at hf
    refine aw_iload_n 3 dX8_branch_11 rfl ?_
    obtain ⟨q6, hq6, hf⟩ := xbind hf
    rcases q6 with a_7 | e_8
    rotate_left
    · cases hf
      exact aw_thrS (M := MX8_branch) (pc := 12) [.int a2] 1 (ctX8_requirePoint hl _ _ hq6) ⟨wl2 (i := 181) rfl rfl, ciX8_requirePoint⟩ (wl2 (i := 182) rfl rfl) dX8_branch_12 rfl rfl (Nat.le_of_ble_eq_true rfl) ⟨Nat.le_of_ble_eq_true rfl, Nat.le_of_ble_eq_true rfl⟩ ⟨Nat.le_of_ble_eq_true rfl, Nat.le_of_ble_eq_true rfl⟩
    have hf := xcs_l hf
    refine aw_callS [.int a2] 1 (ctX8_requirePoint hl _ _ hq6) ⟨wl2 (i := 181) rfl rfl, ciX8_requirePoint⟩ (wl2 (i := 182) rfl rfl) dX8_branch_12 rfl rfl (Nat.le_of_ble_eq_true rfl) ⟨Nat.le_of_ble_eq_true rfl, Nat.le_of_ble_eq_true rfl⟩ ⟨Nat.le_of_ble_eq_true rfl, Nat.le_of_ble_eq_true rfl⟩ ?_
    refine aw_lv [1, 3, 0] rfl ?_
    exact wkX8_branch_15 hl _ _ _ _ hf
abbrev MX8_matchOf : xM := (RX8, cX8_matchOf, 3, (some (.object "AtariGarden$Match")), "matchOf")
abbrev rmX8_matchOf : Room := { frames := 6, cells := 1, slots := 6, locals := 90 }
theorem ciX8_matchOf : Cond.code yX8_matchOf cX8_matchOf 3 (some (.object "AtariGarden$Match")) ∈ wt ∧ Cond.initialized yX8_matchOf.cls ∈ wt ∧ (yX8_matchOf.cls ≠ "java/lang/invoke/MethodHandle" ∧ yX8_matchOf.cls ≠ "java/lang/invoke/VarHandle" ∧ (parseMethodDescriptor yX8_matchOf.desc).map (fun d => d.parameters.length) = some 1) := ⟨wl2 (i := 175) rfl rfl, wl1 (i := 1) rfl rfl, by decide +kernel, by decide +kernel, by decide +kernel⟩
def fX8_matchOf (h : TH) (t : Nat) (a1 : Int32) : Option ((Option Nat × TH) ⊕ (String × TH)) :=
  (if t_kd h t = 7 then (t_R h t 0).bind fun p2 => (if t_kd h p2 = 2 then (fX2_matchAt h p2 a1).bind fun q4 => (if q4 = none then some (.inr ("java/lang/IndexOutOfBoundsException", h)) else some (.inl (q4, h))) else none) else none)
set_option maxHeartbeats 4000000 in
set_option maxRecDepth 100000 in
theorem ctX8_matchOf {l : Launch} {g : xG} (hl : l.stackTraces = false) {r : (Option Nat × TH) ⊕ (String × TH)} (h : TH) (t : Nat) (a1 : Int32) (hf : fX8_matchOf h t a1 = some r) : CT yX8_matchOf MX8_matchOf rmX8_matchOf l g [va_rf (some t), .int a1] (thE g h) (oQ r) (thE g (hP r)) := by
  rw [fX8_matchOf] at hf
  refine CT.of (lv0 := [(0, va_rf (some t)), (1, .int a1)]) (by decide +kernel) rfl rfl (by simp [lg_sl, cat_q, cat_i, cat_l, cat_r]) (by simp [lv_args, cat_q, cat_i, cat_l, cat_r]) hl ?_
  refine aw_qload_n 0 dX8_matchOf_0 rfl ?_
  obtain ⟨hk_1, hf⟩ := xifn hf
  refine th_getR 6 0 inX8 rfl hk_1 rfl ⟨by decide, by decide, rfl⟩ (wl1 (i := 73) rfl rfl) dX8_matchOf_1 ?_
  refine aw_iload_n 1 dX8_matchOf_4 rfl ?_
  obtain ⟨p2, hp2, hf⟩ := xbind hf
  obtain ⟨hk_3, hf⟩ := xifn hf
  obtain ⟨q4, hq4, hf⟩ := xbind hf
  refine aw_callV 1 (t_R h t 0) [.int a1] 1 hp2 (thC_ob (h := h) hk_3 (by decide)) rfl rfl (ctX2_matchAt hl _ _ _ hq4) ⟨wl2 (i := 176) rfl rfl, ciX2_matchAt⟩ (wl2 (i := 177) rfl rfl) (wl2 (i := 178) rfl rfl) dX8_matchOf_5 rfl rfl (Nat.le_of_ble_eq_true rfl) ⟨Nat.le_of_ble_eq_true rfl, Nat.le_of_ble_eq_true rfl⟩ ⟨Nat.le_of_ble_eq_true rfl, Nat.le_of_ble_eq_true rfl⟩ ?_
  refine aw_qstore_n [(2, va_rf q4), (0, va_rf (some t)), (1, .int a1)] dX8_matchOf_8 rfl (by decide) rfl ?_
  refine aw_qload_n 0 dX8_matchOf_9 rfl ?_
  refine aw_ifnonnull 23 dX8_matchOf_10 (by decide) (fun c5 => ?_) (fun c5 => ?_)
  · rw [if_neg c5] at hf
    refine aw_qload_n 0 dX8_matchOf_23 rfl ?_
    cases hf
    exact aw_aret "AtariGarden$Match" dX8_matchOf_24 rfl rfl rfl ⟨Nat.le_of_ble_eq_true rfl, Nat.le_of_ble_eq_true rfl⟩
  · rw [if_pos c5] at hf
    cases hf
    exact aw_throw (M := MX8_matchOf) (pc := 13) (names := xRTE) rfl (by decide +kernel) xRTE_fit (wl2 (i := 2) rfl rfl) (wl1 (i := 7) rfl rfl) (wm2 (i := 180) rfl) xAt_127 xGd_127 dX8_matchOf_13 dX8_matchOf_16 dX8_matchOf_17 dX8_matchOf_19 dX8_matchOf_22 (Nat.le_of_ble_eq_true rfl) ⟨by decide, by decide⟩ ⟨Nat.le_of_ble_eq_true rfl, Nat.le_of_ble_eq_true rfl⟩
abbrev MX8_clock : xM := (RX8, cX8_clock, 4, (some .int), "clock")
abbrev rmX8_clock : Room := { frames := 7, cells := 2, slots := 12, locals := 112 }
theorem ciX8_clock : Cond.code yX8_clock cX8_clock 4 (some .int) ∈ wt ∧ Cond.initialized yX8_clock.cls ∈ wt ∧ (yX8_clock.cls ≠ "java/lang/invoke/MethodHandle" ∧ yX8_clock.cls ≠ "java/lang/invoke/VarHandle" ∧ (parseMethodDescriptor yX8_clock.desc).map (fun d => d.parameters.length) = some 2) := ⟨wl3 (i := 225) rfl rfl, wl1 (i := 1) rfl rfl, by decide +kernel, by decide +kernel, by decide +kernel⟩
def fX8_clock_25 (h : TH) (t : Nat) (a2 : Int32) (a3 : Option Nat) : Option ((Int32 × TH) ⊕ (String × TH)) :=
  a3.bind fun p1 => (if t_kd h p1 = 3 then (fX3_clockOf h p1 a2).bind fun q3 => q3.bind fun p4 => (if t_kd h p4 = 1 then (fX1_reading h p4).bind fun q6 => some (.inl (q6, h)) else none) else none)
set_option maxHeartbeats 4000000 in
set_option maxRecDepth 100000 in
theorem wkX8_clock_25 {l : Launch} {g : xG} {x0 : xV} (hl : l.stackTraces = false) {r : (Int32 × TH) ⊕ (String × TH)} (h : TH) (t : Nat) (a2 : Int32) (a3 : Option Nat) (hf : fX8_clock_25 h t a2 a3 = some r) : AW MX8_clock rmX8_clock l g x0 (oI r) (thE g (hP r)) 1 6 (thE g h) 25 [(2, .int a2), (3, va_rf a3)] [] := by
  rw [fX8_clock_25] at hf
  refine aw_qload_n 1 dX8_clock_25 rfl ?_
  refine aw_iload_n 0 dX8_clock_26 rfl ?_
  obtain ⟨p1, hp1, hf⟩ := xbind hf
  obtain ⟨hk_2, hf⟩ := xifn hf
  obtain ⟨q3, hq3, hf⟩ := xbind hf
  refine aw_callV 2 a3 [.int a2] 1 hp1 (thC_ob (h := h) hk_2 (by decide)) rfl rfl (ctX3_clockOf hl _ _ _ hq3) ⟨wl3 (i := 227) rfl rfl, ciX3_clockOf⟩ (wl2 (i := 210) rfl rfl) (wl2 (i := 211) rfl rfl) dX8_clock_27 rfl rfl (Nat.le_of_ble_eq_true rfl) ⟨Nat.le_of_ble_eq_true rfl, Nat.le_of_ble_eq_true rfl⟩ ⟨Nat.le_of_ble_eq_true rfl, Nat.le_of_ble_eq_true rfl⟩ ?_
  obtain ⟨p4, hp4, hf⟩ := xbind hf
  obtain ⟨hk_5, hf⟩ := xifn hf
  obtain ⟨q6, hq6, hf⟩ := xbind hf
  refine aw_callV 0 q3 [] 0 hp4 (thC_ob (h := h) hk_5 (by decide)) rfl rfl (ctX1_reading hl _ _ hq6) ⟨wl3 (i := 228) rfl rfl, ciX1_reading⟩ (wl3 (i := 229) rfl rfl) (wl3 (i := 230) rfl rfl) dX8_clock_30 rfl rfl (Nat.le_of_ble_eq_true rfl) ⟨Nat.le_of_ble_eq_true rfl, Nat.le_of_ble_eq_true rfl⟩ ⟨Nat.le_of_ble_eq_true rfl, Nat.le_of_ble_eq_true rfl⟩ ?_
  cases hf
  exact aw_iret dX8_clock_33 rfl rfl rfl ⟨Nat.le_of_ble_eq_true rfl, Nat.le_of_ble_eq_true rfl⟩
def fX8_clock (h : TH) (t : Nat) (a1 : Int32) (a2 : Int32) : Option ((Int32 × TH) ⊕ (String × TH)) :=
  (if t_kd h t = 7 then (fX8_matchOf h t a1).bind fun q2 => xcs q2 fun a_3 => (if a2 = 0 then fX8_clock_25 a_3.2 t a2 a_3.1 else (if a2 = (1 : Int32) then fX8_clock_25 a_3.2 t a2 a_3.1 else some (.inr ("java/lang/IndexOutOfBoundsException", a_3.2)))) else none)
set_option maxHeartbeats 4000000 in
set_option maxRecDepth 100000 in
theorem ctX8_clock {l : Launch} {g : xG} (hl : l.stackTraces = false) {r : (Int32 × TH) ⊕ (String × TH)} (h : TH) (t : Nat) (a1 : Int32) (a2 : Int32) (hf : fX8_clock h t a1 a2 = some r) : CT yX8_clock MX8_clock rmX8_clock l g [va_rf (some t), .int a1, .int a2] (thE g h) (oI r) (thE g (hP r)) := by
  rw [fX8_clock] at hf
  refine CT.of (lv0 := [(0, va_rf (some t)), (1, .int a1), (2, .int a2)]) (by decide +kernel) rfl rfl (by simp [lg_sl, cat_q, cat_i, cat_l, cat_r]) (by simp [lv_args, cat_q, cat_i, cat_l, cat_r]) hl ?_
  refine aw_qload_n 0 dX8_clock_0 rfl ?_
  refine aw_iload_n 1 dX8_clock_1 rfl ?_
  obtain ⟨hk_1, hf⟩ := xifn hf
  obtain ⟨q2, hq2, hf⟩ := xbind hf
  rcases q2 with a_3 | e_4
  rotate_left
  · cases hf
    exact aw_thrV (M := MX8_clock) (pc := 2) 6 (some t) [.int a1] 1 rfl (thC_ob (h := h) hk_1 (by decide)) rfl rfl (ctX8_matchOf hl _ _ _ hq2) ⟨wl2 (i := 172) rfl rfl, ciX8_matchOf⟩ (wl2 (i := 174) rfl rfl) (wl0 (i := 8) rfl rfl) dX8_clock_2 rfl rfl (Nat.le_of_ble_eq_true rfl) ⟨Nat.le_of_ble_eq_true rfl, Nat.le_of_ble_eq_true rfl⟩ ⟨Nat.le_of_ble_eq_true rfl, Nat.le_of_ble_eq_true rfl⟩
  have hf := xcs_l hf
  refine aw_callV 6 (some t) [.int a1] 1 rfl (thC_ob (h := h) hk_1 (by decide)) rfl rfl (ctX8_matchOf hl _ _ _ hq2) ⟨wl2 (i := 172) rfl rfl, ciX8_matchOf⟩ (wl2 (i := 174) rfl rfl) (wl0 (i := 8) rfl rfl) dX8_clock_2 rfl rfl (Nat.le_of_ble_eq_true rfl) ⟨Nat.le_of_ble_eq_true rfl, Nat.le_of_ble_eq_true rfl⟩ ⟨Nat.le_of_ble_eq_true rfl, Nat.le_of_ble_eq_true rfl⟩ ?_
  refine aw_qstore_n [(3, va_rf a_3.1), (0, va_rf (some t)), (1, .int a1), (2, .int a2)] dX8_clock_5 rfl (by decide) rfl ?_
  refine aw_iload_n 3 dX8_clock_6 rfl ?_
  refine aw_if_eq 25 dX8_clock_7 (by decide) (fun c5 => ?_) (fun c5 => ?_)
  · rw [if_pos c5] at hf
    refine aw_lv [3, 0] rfl ?_
    exact wkX8_clock_25 hl _ _ _ _ hf
  · rw [if_neg c5] at hf
    refine aw_iload_n 3 dX8_clock_10 rfl ?_
    refine aw_iconst (1 : Int32) dX8_clock_11 (by decide) ?_
    refine aw_icmp_eq 25 dX8_clock_12 (by decide) (fun c6 => ?_) (fun c6 => ?_)
    · rw [if_pos c6] at hf
      refine aw_lv [3, 0] rfl ?_
      exact wkX8_clock_25 hl _ _ _ _ hf
    · rw [if_neg c6] at hf
      cases hf
      exact aw_throw (M := MX8_clock) (pc := 15) (names := xRTE) rfl (by decide +kernel) xRTE_fit (wl2 (i := 2) rfl rfl) (wl1 (i := 7) rfl rfl) (wm3 (i := 226) rfl) xAt_127 xGd_127 dX8_clock_15 dX8_clock_18 dX8_clock_19 dX8_clock_21 dX8_clock_24 (Nat.le_of_ble_eq_true rfl) ⟨by decide, by decide⟩ ⟨Nat.le_of_ble_eq_true rfl, Nat.le_of_ble_eq_true rfl⟩
abbrev MX8_due : xM := (RX8, cX8_due, 2, (some .int), "due")
abbrev rmX8_due : Room := { frames := 7, cells := 1, slots := 6, locals := 112 }
theorem ciX8_due : Cond.code yX8_due cX8_due 2 (some .int) ∈ wt ∧ Cond.initialized yX8_due.cls ∈ wt ∧ (yX8_due.cls ≠ "java/lang/invoke/MethodHandle" ∧ yX8_due.cls ≠ "java/lang/invoke/VarHandle" ∧ (parseMethodDescriptor yX8_due.desc).map (fun d => d.parameters.length) = some 1) := ⟨wl4 (i := 20) rfl rfl, wl1 (i := 1) rfl rfl, by decide +kernel, by decide +kernel, by decide +kernel⟩
def fX8_due (h : TH) (t : Nat) (a1 : Int32) : Option ((Int32 × TH) ⊕ (String × TH)) :=
  (if t_kd h t = 7 then (fX8_matchOf h t a1).bind fun q2 => xcs q2 fun a_3 => (t_R h t 0).bind fun p5 => (if t_kd a_3.2 p5 = 2 then (fX2_duePairing a_3.2 p5 a_3.1).bind fun q7 => some (.inl (q7, a_3.2)) else none) else none)
set_option maxHeartbeats 4000000 in
set_option maxRecDepth 100000 in
theorem ctX8_due {l : Launch} {g : xG} (hl : l.stackTraces = false) {r : (Int32 × TH) ⊕ (String × TH)} (h : TH) (t : Nat) (a1 : Int32) (hf : fX8_due h t a1 = some r) : CT yX8_due MX8_due rmX8_due l g [va_rf (some t), .int a1] (thE g h) (oI r) (thE g (hP r)) := by
  rw [fX8_due] at hf
  refine CT.of (lv0 := [(0, va_rf (some t)), (1, .int a1)]) (by decide +kernel) rfl rfl (by simp [lg_sl, cat_q, cat_i, cat_l, cat_r]) (by simp [lv_args, cat_q, cat_i, cat_l, cat_r]) hl ?_
  refine aw_qload_n 0 dX8_due_0 rfl ?_
  obtain ⟨hk_1, hf⟩ := xifn hf
  refine th_getR 6 0 inX8 rfl hk_1 rfl ⟨by decide, by decide, rfl⟩ (wl1 (i := 73) rfl rfl) dX8_due_1 ?_
  refine aw_qload_n 0 dX8_due_4 rfl ?_
  refine aw_iload_n 1 dX8_due_5 rfl ?_
  obtain ⟨q2, hq2, hf⟩ := xbind hf
  rcases q2 with a_3 | e_4
  rotate_left
  · cases hf
    exact aw_thrV (M := MX8_due) (pc := 6) 6 (some t) [.int a1] 1 rfl (thC_ob (h := h) hk_1 (by decide)) rfl rfl (ctX8_matchOf hl _ _ _ hq2) ⟨wl2 (i := 172) rfl rfl, ciX8_matchOf⟩ (wl2 (i := 174) rfl rfl) (wl0 (i := 8) rfl rfl) dX8_due_6 rfl rfl (by simp [cat_q, cat_i, cat_l, cat_r]) ⟨Nat.le_of_ble_eq_true rfl, Nat.le_of_ble_eq_true rfl⟩ ⟨Nat.le_of_ble_eq_true rfl, Nat.le_of_ble_eq_true rfl⟩
  have hf := xcs_l hf
  refine aw_callV 6 (some t) [.int a1] 1 rfl (thC_ob (h := h) hk_1 (by decide)) rfl rfl (ctX8_matchOf hl _ _ _ hq2) ⟨wl2 (i := 172) rfl rfl, ciX8_matchOf⟩ (wl2 (i := 174) rfl rfl) (wl0 (i := 8) rfl rfl) dX8_due_6 rfl rfl (by simp [cat_q, cat_i, cat_l, cat_r]) ⟨Nat.le_of_ble_eq_true rfl, Nat.le_of_ble_eq_true rfl⟩ ⟨Nat.le_of_ble_eq_true rfl, Nat.le_of_ble_eq_true rfl⟩ ?_
  obtain ⟨p5, hp5, hf⟩ := xbind hf
  obtain ⟨hk_6, hf⟩ := xifn hf
  obtain ⟨q7, hq7, hf⟩ := xbind hf
  refine aw_callV 1 (t_R h t 0) [va_rf a_3.1] 1 hp5 (thC_ob (h := a_3.2) hk_6 (by decide)) rfl rfl (ctX2_duePairing hl _ _ _ hq7) ⟨wl4 (i := 21) rfl rfl, ciX2_duePairing⟩ (wl1 (i := 97) rfl rfl) (wl1 (i := 98) rfl rfl) dX8_due_9 rfl rfl (Nat.le_of_ble_eq_true rfl) ⟨Nat.le_of_ble_eq_true rfl, Nat.le_of_ble_eq_true rfl⟩ ⟨Nat.le_of_ble_eq_true rfl, Nat.le_of_ble_eq_true rfl⟩ ?_
  cases hf
  exact aw_iret dX8_due_12 rfl rfl rfl ⟨Nat.le_of_ble_eq_true rfl, Nat.le_of_ble_eq_true rfl⟩
abbrev MX8_flooded : xM := (RX8, cX8_flooded, 4, (some .int), "flooded")
abbrev rmX8_flooded : Room := { frames := 7, cells := 2, slots := 12, locals := 112 }
theorem ciX8_flooded : Cond.code yX8_flooded cX8_flooded 4 (some .int) ∈ wt ∧ Cond.initialized yX8_flooded.cls ∈ wt ∧ (yX8_flooded.cls ≠ "java/lang/invoke/MethodHandle" ∧ yX8_flooded.cls ≠ "java/lang/invoke/VarHandle" ∧ (parseMethodDescriptor yX8_flooded.desc).map (fun d => d.parameters.length) = some 2) := ⟨wl4 (i := 8) rfl rfl, wl1 (i := 1) rfl rfl, by decide +kernel, by decide +kernel, by decide +kernel⟩
def fX8_flooded (h : TH) (t : Nat) (a1 : Int32) (a2 : Int32) : Option ((Int32 × TH) ⊕ (String × TH)) :=
  (if t_kd h t = 7 then (fX8_matchOf h t a1).bind fun q2 => xcs q2 fun a_3 => (fX8_requirePoint a_3.2 a2).bind fun q5 => xcs q5 fun a_6 => a_3.1.bind fun p8 => (if t_kd a_6 p8 = 3 then (t_R a_6 p8 6).bind fun p10 => (if t_kd a_6 p10 = 4 then (fX4_countLiberties a_6 p10 a2).bind fun q12 => some (.inl (q12, a_6)) else none) else none) else none)
set_option maxHeartbeats 4000000 in
set_option maxRecDepth 100000 in
theorem ctX8_flooded {l : Launch} {g : xG} (hl : l.stackTraces = false) {r : (Int32 × TH) ⊕ (String × TH)} (h : TH) (t : Nat) (a1 : Int32) (a2 : Int32) (hf : fX8_flooded h t a1 a2 = some r) : CT yX8_flooded MX8_flooded rmX8_flooded l g [va_rf (some t), .int a1, .int a2] (thE g h) (oI r) (thE g (hP r)) := by
  rw [fX8_flooded] at hf
  refine CT.of (lv0 := [(0, va_rf (some t)), (1, .int a1), (2, .int a2)]) (by decide +kernel) rfl rfl (by simp [lg_sl, cat_q, cat_i, cat_l, cat_r]) (by simp [lv_args, cat_q, cat_i, cat_l, cat_r]) hl ?_
  refine aw_qload_n 0 dX8_flooded_0 rfl ?_
  refine aw_iload_n 1 dX8_flooded_1 rfl ?_
  obtain ⟨hk_1, hf⟩ := xifn hf
  obtain ⟨q2, hq2, hf⟩ := xbind hf
  rcases q2 with a_3 | e_4
  rotate_left
  · cases hf
    exact aw_thrV (M := MX8_flooded) (pc := 2) 6 (some t) [.int a1] 1 rfl (thC_ob (h := h) hk_1 (by decide)) rfl rfl (ctX8_matchOf hl _ _ _ hq2) ⟨wl2 (i := 172) rfl rfl, ciX8_matchOf⟩ (wl2 (i := 174) rfl rfl) (wl0 (i := 8) rfl rfl) dX8_flooded_2 rfl rfl (Nat.le_of_ble_eq_true rfl) ⟨Nat.le_of_ble_eq_true rfl, Nat.le_of_ble_eq_true rfl⟩ ⟨Nat.le_of_ble_eq_true rfl, Nat.le_of_ble_eq_true rfl⟩
  have hf := xcs_l hf
  refine aw_callV 6 (some t) [.int a1] 1 rfl (thC_ob (h := h) hk_1 (by decide)) rfl rfl (ctX8_matchOf hl _ _ _ hq2) ⟨wl2 (i := 172) rfl rfl, ciX8_matchOf⟩ (wl2 (i := 174) rfl rfl) (wl0 (i := 8) rfl rfl) dX8_flooded_2 rfl rfl (Nat.le_of_ble_eq_true rfl) ⟨Nat.le_of_ble_eq_true rfl, Nat.le_of_ble_eq_true rfl⟩ ⟨Nat.le_of_ble_eq_true rfl, Nat.le_of_ble_eq_true rfl⟩ ?_
  refine aw_qstore_n [(3, va_rf a_3.1), (0, va_rf (some t)), (1, .int a1), (2, .int a2)] dX8_flooded_5 rfl (by decide) rfl ?_
  refine aw_iload_n 3 dX8_flooded_6 rfl ?_
  obtain ⟨q5, hq5, hf⟩ := xbind hf
  rcases q5 with a_6 | e_7
  rotate_left
  · cases hf
    exact aw_thrS (M := MX8_flooded) (pc := 7) [.int a2] 1 (ctX8_requirePoint hl _ _ hq5) ⟨wl2 (i := 181) rfl rfl, ciX8_requirePoint⟩ (wl2 (i := 182) rfl rfl) dX8_flooded_7 rfl rfl (Nat.le_of_ble_eq_true rfl) ⟨Nat.le_of_ble_eq_true rfl, Nat.le_of_ble_eq_true rfl⟩ ⟨Nat.le_of_ble_eq_true rfl, Nat.le_of_ble_eq_true rfl⟩
  have hf := xcs_l hf
  refine aw_callS [.int a2] 1 (ctX8_requirePoint hl _ _ hq5) ⟨wl2 (i := 181) rfl rfl, ciX8_requirePoint⟩ (wl2 (i := 182) rfl rfl) dX8_flooded_7 rfl rfl (Nat.le_of_ble_eq_true rfl) ⟨Nat.le_of_ble_eq_true rfl, Nat.le_of_ble_eq_true rfl⟩ ⟨Nat.le_of_ble_eq_true rfl, Nat.le_of_ble_eq_true rfl⟩ ?_
  refine aw_qload_n 0 dX8_flooded_10 rfl ?_
  obtain ⟨p8, hp8, hf⟩ := xbind hf
  obtain ⟨hk_9, hf⟩ := xifn hf
  refine th_getRN "AtariGarden" 2 6 inX3 hp8 hk_9 rfl ⟨by decide, by decide, rfl⟩ (wm2 (i := 138) rfl) dX8_flooded_11 ?_
  refine aw_iload_n 3 dX8_flooded_14 rfl ?_
  obtain ⟨p10, hp10, hf⟩ := xbind hf
  obtain ⟨hk_11, hf⟩ := xifn hf
  obtain ⟨q12, hq12, hf⟩ := xbind hf
  refine aw_callV 3 (t_R a_6 p8 6) [.int a2] 1 hp10 (thC_ob (h := a_6) hk_11 (by decide)) rfl rfl (ctX4_countLiberties hl _ _ _ hq12) ⟨wl4 (i := 9) rfl rfl, ciX4_countLiberties⟩ (wl4 (i := 10) rfl rfl) (wl4 (i := 11) rfl rfl) dX8_flooded_15 rfl rfl (Nat.le_of_ble_eq_true rfl) ⟨Nat.le_of_ble_eq_true rfl, Nat.le_of_ble_eq_true rfl⟩ ⟨Nat.le_of_ble_eq_true rfl, Nat.le_of_ble_eq_true rfl⟩ ?_
  cases hf
  exact aw_iret dX8_flooded_18 rfl rfl rfl ⟨Nat.le_of_ble_eq_true rfl, Nat.le_of_ble_eq_true rfl⟩
abbrev MX8_requirePlayer : xM := (RX8, cX8_requirePlayer, 2, none, "requirePlayer")
abbrev rmX8_requirePlayer : Room := { frames := 6, cells := 1, slots := 6, locals := 90 }
theorem ciX8_requirePlayer : Cond.code yX8_requirePlayer cX8_requirePlayer 2 none ∈ wt ∧ Cond.initialized yX8_requirePlayer.cls ∈ wt ∧ (yX8_requirePlayer.cls ≠ "java/lang/invoke/MethodHandle" ∧ yX8_requirePlayer.cls ≠ "java/lang/invoke/VarHandle" ∧ (parseMethodDescriptor yX8_requirePlayer.desc).map (fun d => d.parameters.length) = some 1) := ⟨wl1 (i := 237) rfl rfl, wl1 (i := 1) rfl rfl, by decide +kernel, by decide +kernel, by decide +kernel⟩
def fX8_requirePlayer (h : TH) (t : Nat) (a1 : Int32) : Option ((TH) ⊕ (String × TH)) :=
  (if t_kd h t = 7 then (t_R h t 0).bind fun p2 => (if t_kd h p2 = 2 then (fX2_hasPlayer h p2 a1).bind fun q4 => (if q4 = false then some (.inr ("java/lang/IndexOutOfBoundsException", h)) else some (.inl h)) else none) else none)
set_option maxHeartbeats 4000000 in
set_option maxRecDepth 100000 in
theorem ctX8_requirePlayer {l : Launch} {g : xG} (hl : l.stackTraces = false) {r : (TH) ⊕ (String × TH)} (h : TH) (t : Nat) (a1 : Int32) (hf : fX8_requirePlayer h t a1 = some r) : CT yX8_requirePlayer MX8_requirePlayer rmX8_requirePlayer l g [va_rf (some t), .int a1] (thE g h) (oV r) (thE g (hV r)) := by
  rw [fX8_requirePlayer] at hf
  refine CT.of (lv0 := [(0, va_rf (some t)), (1, .int a1)]) (by decide +kernel) rfl rfl (by simp [lg_sl, cat_q, cat_i, cat_l, cat_r]) (by simp [lv_args, cat_q, cat_i, cat_l, cat_r]) hl ?_
  refine aw_qload_n 0 dX8_requirePlayer_0 rfl ?_
  obtain ⟨hk_1, hf⟩ := xifn hf
  refine th_getR 6 0 inX8 rfl hk_1 rfl ⟨by decide, by decide, rfl⟩ (wl1 (i := 73) rfl rfl) dX8_requirePlayer_1 ?_
  refine aw_iload_n 1 dX8_requirePlayer_4 rfl ?_
  obtain ⟨p2, hp2, hf⟩ := xbind hf
  obtain ⟨hk_3, hf⟩ := xifn hf
  obtain ⟨q4, hq4, hf⟩ := xbind hf
  refine aw_callV 1 (t_R h t 0) [.int a1] 1 hp2 (thC_ob (h := h) hk_3 (by decide)) rfl rfl (ctX2_hasPlayer hl _ _ _ hq4) ⟨wl1 (i := 238) rfl rfl, ciX2_hasPlayer⟩ (wl1 (i := 239) rfl rfl) (wl2 (i := 0) rfl rfl) dX8_requirePlayer_5 rfl rfl (Nat.le_of_ble_eq_true rfl) ⟨Nat.le_of_ble_eq_true rfl, Nat.le_of_ble_eq_true rfl⟩ ⟨Nat.le_of_ble_eq_true rfl, Nat.le_of_ble_eq_true rfl⟩ ?_
  refine aw_ifb_ne 21 dX8_requirePlayer_8 (by decide) (fun c5 => ?_) (fun c5 => ?_)
  · rw [if_neg c5] at hf
    cases hf
    exact aw_vret dX8_requirePlayer_21 rfl rfl rfl ⟨Nat.le_of_ble_eq_true rfl, Nat.le_of_ble_eq_true rfl⟩
  · rw [if_pos c5] at hf
    cases hf
    exact aw_throw (M := MX8_requirePlayer) (pc := 11) (names := xRTE) rfl (by decide +kernel) xRTE_fit (wl2 (i := 2) rfl rfl) (wl1 (i := 7) rfl rfl) (wm2 (i := 11) rfl) xAt_127 xGd_127 dX8_requirePlayer_11 dX8_requirePlayer_14 dX8_requirePlayer_15 dX8_requirePlayer_17 dX8_requirePlayer_20 (Nat.le_of_ble_eq_true rfl) ⟨by decide, by decide⟩ ⟨Nat.le_of_ble_eq_true rfl, Nat.le_of_ble_eq_true rfl⟩
abbrev MX8_requireRange : xM := (RX8, cX8_requireRange, 3, none, "requireRange")
abbrev rmX8_requireRange : Room := { frames := 6, cells := 1, slots := 6, locals := 90 }
theorem ciX8_requireRange : Cond.code yX8_requireRange cX8_requireRange 3 none ∈ wt ∧ Cond.initialized yX8_requireRange.cls ∈ wt ∧ (yX8_requireRange.cls ≠ "java/lang/invoke/MethodHandle" ∧ yX8_requireRange.cls ≠ "java/lang/invoke/VarHandle" ∧ (parseMethodDescriptor yX8_requireRange.desc).map (fun d => d.parameters.length) = some 3) := ⟨wl1 (i := 141) rfl rfl, wl1 (i := 1) rfl rfl, by decide +kernel, by decide +kernel, by decide +kernel⟩
def fX8_requireRange_10 (h : TH) : Option ((TH) ⊕ (String × TH)) :=
  some (.inr ("java/lang/IllegalArgumentException", h))
set_option maxHeartbeats 4000000 in
set_option maxRecDepth 100000 in
theorem wkX8_requireRange_10 {l : Launch} {g : xG} {x0 : xV} (hl : l.stackTraces = false) {r : (TH) ⊕ (String × TH)} (h : TH) (hf : fX8_requireRange_10 h = some r) : AW MX8_requireRange rmX8_requireRange l g x0 (oV r) (thE g (hV r)) 0 0 (thE g h) 10 [] [] := by
  rw [fX8_requireRange_10] at hf
  cases hf
  exact aw_throw (M := MX8_requireRange) (pc := 10) (names := xRTE) rfl (by decide +kernel) xRTE_fit (wl1 (i := 142) rfl rfl) (wl1 (i := 11) rfl rfl) (wm1 (i := 183) rfl) xAt_54 xGd_54 dX8_requireRange_10 dX8_requireRange_13 dX8_requireRange_14 dX8_requireRange_16 dX8_requireRange_19 (Nat.le_of_ble_eq_true rfl) ⟨by decide, by decide⟩ ⟨Nat.le_of_ble_eq_true rfl, Nat.le_of_ble_eq_true rfl⟩
def fX8_requireRange (h : TH) (a0 : Int32) (a1 : Int32) (a2 : Int32) : Option ((TH) ⊕ (String × TH)) :=
  (if a0 < a1 then fX8_requireRange_10 h else (if a0 ≤ a2 then some (.inl h) else fX8_requireRange_10 h))
set_option maxHeartbeats 4000000 in
set_option maxRecDepth 100000 in
theorem ctX8_requireRange {l : Launch} {g : xG} (hl : l.stackTraces = false) {r : (TH) ⊕ (String × TH)} (h : TH) (a0 : Int32) (a1 : Int32) (a2 : Int32) (hf : fX8_requireRange h a0 a1 a2 = some r) : CT yX8_requireRange MX8_requireRange rmX8_requireRange l g [.int a0, .int a1, .int a2] (thE g h) (oV r) (thE g (hV r)) := by
  rw [fX8_requireRange] at hf
  refine CT.of (lv0 := [(0, .int a0), (1, .int a1), (2, .int a2)]) (by decide +kernel) rfl rfl (Nat.le_of_ble_eq_true rfl) rfl hl ?_
  refine aw_iload_n 0 dX8_requireRange_0 rfl ?_
  refine aw_iload_n 1 dX8_requireRange_1 rfl ?_
  refine aw_icmp_lt 10 dX8_requireRange_2 (by decide) (fun c1 => ?_) (fun c1 => ?_)
  · rw [if_pos c1] at hf
    refine aw_lv [] rfl ?_
    exact wkX8_requireRange_10 hl _ hf
  · rw [if_neg c1] at hf
    refine aw_iload_n 0 dX8_requireRange_5 rfl ?_
    refine aw_iload_n 2 dX8_requireRange_6 rfl ?_
    refine aw_icmp_le 20 dX8_requireRange_7 (by decide) (fun c2 => ?_) (fun c2 => ?_)
    · rw [if_pos c2] at hf
      cases hf
      exact aw_vret dX8_requireRange_20 rfl rfl rfl ⟨Nat.le_of_ble_eq_true rfl, Nat.le_of_ble_eq_true rfl⟩
    · rw [if_neg c2] at hf
      refine aw_lv [] rfl ?_
      exact wkX8_requireRange_10 hl _ hf
abbrev MX8_game : xM := (RX8, cX8_game, 7, (some .int), "game")
abbrev rmX8_game : Room := { frames := 7, cells := 11, slots := 107, locals := 152 }
theorem ciX8_game : Cond.code yX8_game cX8_game 7 (some .int) ∈ wt ∧ Cond.initialized yX8_game.cls ∈ wt ∧ (yX8_game.cls ≠ "java/lang/invoke/MethodHandle" ∧ yX8_game.cls ≠ "java/lang/invoke/VarHandle" ∧ (parseMethodDescriptor yX8_game.desc).map (fun d => d.parameters.length) = some 5) := ⟨wl1 (i := 233) rfl rfl, wl1 (i := 1) rfl rfl, by decide +kernel, by decide +kernel, by decide +kernel⟩
def fX8_game (h : TH) (t : Nat) (a1 : Int32) (a2 : Int32) (a3 : Int32) (a4 : Int32) (a5 : Int32) : Option ((Int32 × TH) ⊕ (String × TH)) :=
  (if t_kd h t = 7 then (fX8_requirePlayer h t a1).bind fun q2 => xcs q2 fun a_3 => (if t_kd a_3 t = 7 then (fX8_requirePlayer a_3 t a2).bind fun q6 => xcs q6 fun a_7 => (if a1 = a2 then some (.inr ("java/lang/IllegalArgumentException", a_7)) else (fX8_requireRange a_7 a3 (0 : Int32) (3600 : Int32)).bind fun q10 => xcs q10 fun a_11 => (fX8_requireRange a_11 a4 (0 : Int32) (5 : Int32)).bind fun q13 => xcs q13 fun a_14 => (fX8_requireRange a_14 a5 (1 : Int32) (60 : Int32)).bind fun q16 => xcs q16 fun a_17 => (if t_kd a_17 t = 7 then (fX1_init (s_N a_17 1 0) (t_sz a_17) a3 a4 a5).bind fun q20 => (fX1_init (s_N q20 1 0) (t_sz q20) a3 a4 a5).bind fun q21 => (t_R a_17 t 0).bind fun p22 => (if t_kd q21 p22 = 2 then (fX2_begin q21 p22 a1 a2 (some (t_sz a_17)) (some (t_sz q20))).bind fun q24 => (if 0 ≤ q24.1 then some (.inl (q24.1, q24.2)) else some (.inr ("java/lang/IllegalStateException", q24.2))) else none) else none)) else none) else none)
set_option maxHeartbeats 4000000 in
set_option maxRecDepth 100000 in
theorem ctX8_game {l : Launch} {g : xG} (hl : l.stackTraces = false) {r : (Int32 × TH) ⊕ (String × TH)} (h : TH) (t : Nat) (a1 : Int32) (a2 : Int32) (a3 : Int32) (a4 : Int32) (a5 : Int32) (hf : fX8_game h t a1 a2 a3 a4 a5 = some r) : CT yX8_game MX8_game rmX8_game l g [va_rf (some t), .int a1, .int a2, .int a3, .int a4, .int a5] (thE g h) (oI r) (thE g (hP r)) := by
  rw [fX8_game] at hf
  refine CT.of (lv0 := [(0, va_rf (some t)), (1, .int a1), (2, .int a2), (3, .int a3), (4, .int a4), (5, .int a5)]) (by decide +kernel) rfl rfl (by simp [lg_sl, cat_q, cat_i, cat_l, cat_r]) (by simp [lv_args, cat_q, cat_i, cat_l, cat_r]) hl ?_
  refine aw_qload_n 0 dX8_game_0 rfl ?_
  refine aw_iload_n 1 dX8_game_1 rfl ?_
  obtain ⟨hk_1, hf⟩ := xifn hf
  obtain ⟨q2, hq2, hf⟩ := xbind hf
  rcases q2 with a_3 | e_4
  rotate_left
  · cases hf
    exact aw_thrV (M := MX8_game) (pc := 2) 6 (some t) [.int a1] 1 rfl (thC_ob (h := h) hk_1 (by decide)) rfl rfl (ctX8_requirePlayer hl _ _ _ hq2) ⟨wl1 (i := 234) rfl rfl, ciX8_requirePlayer⟩ (wl1 (i := 236) rfl rfl) (wl0 (i := 4) rfl rfl) dX8_game_2 rfl rfl (Nat.le_of_ble_eq_true rfl) ⟨Nat.le_of_ble_eq_true rfl, Nat.le_of_ble_eq_true rfl⟩ ⟨Nat.le_of_ble_eq_true rfl, Nat.le_of_ble_eq_true rfl⟩
  have hf := xcs_l hf
  refine aw_callV 6 (some t) [.int a1] 1 rfl (thC_ob (h := h) hk_1 (by decide)) rfl rfl (ctX8_requirePlayer hl _ _ _ hq2) ⟨wl1 (i := 234) rfl rfl, ciX8_requirePlayer⟩ (wl1 (i := 236) rfl rfl) (wl0 (i := 4) rfl rfl) dX8_game_2 rfl rfl (Nat.le_of_ble_eq_true rfl) ⟨Nat.le_of_ble_eq_true rfl, Nat.le_of_ble_eq_true rfl⟩ ⟨Nat.le_of_ble_eq_true rfl, Nat.le_of_ble_eq_true rfl⟩ ?_
  refine aw_qload_n 0 dX8_game_5 rfl ?_
  refine aw_iload_n 2 dX8_game_6 rfl ?_
  obtain ⟨hk_5, hf⟩ := xifn hf
  obtain ⟨q6, hq6, hf⟩ := xbind hf
  rcases q6 with a_7 | e_8
  rotate_left
  · cases hf
    exact aw_thrV (M := MX8_game) (pc := 7) 6 (some t) [.int a2] 1 rfl (thC_ob (h := a_3) hk_5 (by decide)) rfl rfl (ctX8_requirePlayer hl _ _ _ hq6) ⟨wl1 (i := 234) rfl rfl, ciX8_requirePlayer⟩ (wl1 (i := 236) rfl rfl) (wl0 (i := 4) rfl rfl) dX8_game_7 rfl rfl (Nat.le_of_ble_eq_true rfl) ⟨Nat.le_of_ble_eq_true rfl, Nat.le_of_ble_eq_true rfl⟩ ⟨Nat.le_of_ble_eq_true rfl, Nat.le_of_ble_eq_true rfl⟩
  have hf := xcs_l hf
  refine aw_callV 6 (some t) [.int a2] 1 rfl (thC_ob (h := a_3) hk_5 (by decide)) rfl rfl (ctX8_requirePlayer hl _ _ _ hq6) ⟨wl1 (i := 234) rfl rfl, ciX8_requirePlayer⟩ (wl1 (i := 236) rfl rfl) (wl0 (i := 4) rfl rfl) dX8_game_7 rfl rfl (Nat.le_of_ble_eq_true rfl) ⟨Nat.le_of_ble_eq_true rfl, Nat.le_of_ble_eq_true rfl⟩ ⟨Nat.le_of_ble_eq_true rfl, Nat.le_of_ble_eq_true rfl⟩ ?_
  refine aw_iload_n 1 dX8_game_10 rfl ?_
  refine aw_iload_n 2 dX8_game_11 rfl ?_
  refine aw_icmp_ne 25 dX8_game_12 (by decide) (fun c9 => ?_) (fun c9 => ?_)
  · rw [if_neg c9] at hf
    refine aw_iload_n 3 dX8_game_25 rfl ?_
    refine aw_iconst (0 : Int32) dX8_game_26 (by decide) ?_
    refine aw_sipush (3600 : Int32) dX8_game_27 (by decide) ?_
    obtain ⟨q10, hq10, hf⟩ := xbind hf
    rcases q10 with a_11 | e_12
    rotate_left
    · cases hf
      exact aw_thrS (M := MX8_game) (pc := 30) [.int a3, .int (0 : Int32), .int (3600 : Int32)] 3 (ctX8_requireRange hl _ _ _ _ hq10) ⟨wl1 (i := 139) rfl rfl, ciX8_requireRange⟩ (wl1 (i := 140) rfl rfl) dX8_game_30 rfl rfl (Nat.le_of_ble_eq_true rfl) ⟨Nat.le_of_ble_eq_true rfl, Nat.le_of_ble_eq_true rfl⟩ ⟨Nat.le_of_ble_eq_true rfl, Nat.le_of_ble_eq_true rfl⟩
    have hf := xcs_l hf
    refine aw_callS [.int a3, .int (0 : Int32), .int (3600 : Int32)] 3 (ctX8_requireRange hl _ _ _ _ hq10) ⟨wl1 (i := 139) rfl rfl, ciX8_requireRange⟩ (wl1 (i := 140) rfl rfl) dX8_game_30 rfl rfl (Nat.le_of_ble_eq_true rfl) ⟨Nat.le_of_ble_eq_true rfl, Nat.le_of_ble_eq_true rfl⟩ ⟨Nat.le_of_ble_eq_true rfl, Nat.le_of_ble_eq_true rfl⟩ ?_
    refine aw_iload 4 dX8_game_33 rfl ?_
    refine aw_iconst (0 : Int32) dX8_game_35 (by decide) ?_
    refine aw_iconst (5 : Int32) dX8_game_36 (by decide) ?_
    obtain ⟨q13, hq13, hf⟩ := xbind hf
    rcases q13 with a_14 | e_15
    rotate_left
    · cases hf
      exact aw_thrS (M := MX8_game) (pc := 37) [.int a4, .int (0 : Int32), .int (5 : Int32)] 3 (ctX8_requireRange hl _ _ _ _ hq13) ⟨wl1 (i := 139) rfl rfl, ciX8_requireRange⟩ (wl1 (i := 140) rfl rfl) dX8_game_37 rfl rfl (Nat.le_of_ble_eq_true rfl) ⟨Nat.le_of_ble_eq_true rfl, Nat.le_of_ble_eq_true rfl⟩ ⟨Nat.le_of_ble_eq_true rfl, Nat.le_of_ble_eq_true rfl⟩
    have hf := xcs_l hf
    refine aw_callS [.int a4, .int (0 : Int32), .int (5 : Int32)] 3 (ctX8_requireRange hl _ _ _ _ hq13) ⟨wl1 (i := 139) rfl rfl, ciX8_requireRange⟩ (wl1 (i := 140) rfl rfl) dX8_game_37 rfl rfl (Nat.le_of_ble_eq_true rfl) ⟨Nat.le_of_ble_eq_true rfl, Nat.le_of_ble_eq_true rfl⟩ ⟨Nat.le_of_ble_eq_true rfl, Nat.le_of_ble_eq_true rfl⟩ ?_
    refine aw_iload 5 dX8_game_40 rfl ?_
    refine aw_iconst (1 : Int32) dX8_game_42 (by decide) ?_
    refine aw_bipush (60 : Int32) dX8_game_43 (by decide) ?_
    obtain ⟨q16, hq16, hf⟩ := xbind hf
    rcases q16 with a_17 | e_18
    rotate_left
    · cases hf
      exact aw_thrS (M := MX8_game) (pc := 45) [.int a5, .int (1 : Int32), .int (60 : Int32)] 3 (ctX8_requireRange hl _ _ _ _ hq16) ⟨wl1 (i := 139) rfl rfl, ciX8_requireRange⟩ (wl1 (i := 140) rfl rfl) dX8_game_45 rfl rfl (Nat.le_of_ble_eq_true rfl) ⟨Nat.le_of_ble_eq_true rfl, Nat.le_of_ble_eq_true rfl⟩ ⟨Nat.le_of_ble_eq_true rfl, Nat.le_of_ble_eq_true rfl⟩
    have hf := xcs_l hf
    refine aw_callS [.int a5, .int (1 : Int32), .int (60 : Int32)] 3 (ctX8_requireRange hl _ _ _ _ hq16) ⟨wl1 (i := 139) rfl rfl, ciX8_requireRange⟩ (wl1 (i := 140) rfl rfl) dX8_game_45 rfl rfl (Nat.le_of_ble_eq_true rfl) ⟨Nat.le_of_ble_eq_true rfl, Nat.le_of_ble_eq_true rfl⟩ ⟨Nat.le_of_ble_eq_true rfl, Nat.le_of_ble_eq_true rfl⟩ ?_
    refine aw_qload_n 0 dX8_game_48 rfl ?_
    obtain ⟨hk_19, hf⟩ := xifn hf
    refine th_getR 6 0 inX8 rfl hk_19 rfl ⟨by decide, by decide, rfl⟩ (wl1 (i := 73) rfl rfl) dX8_game_49 ?_
    refine aw_iload_n 1 dX8_game_52 rfl ?_
    refine aw_iload_n 2 dX8_game_53 rfl ?_
    refine th_new 0 xtX1 rfl (by decide) (wl2 (i := 19) rfl rfl) (wl2 (i := 20) rfl rfl) (wl1 (i := 13) rfl rfl) (by decide) ⟨Nat.le_of_ble_eq_true rfl, Nat.le_of_ble_eq_true rfl⟩ dX8_game_54 ?_
    refine aw_dup dX8_game_57 (cat_q _) ?_
    refine aw_iload_n 3 dX8_game_58 rfl ?_
    refine aw_iload 4 dX8_game_59 rfl ?_
    refine aw_iload 5 dX8_game_61 rfl ?_
    obtain ⟨q20, hq20, hf⟩ := xbind hf
    refine aw_callI _ [.int a3, .int a4, .int a5] 3 rfl rfl (ctX1_init hl _ _ _ _ _ hq20) ⟨wl2 (i := 21) rfl rfl, ciX1_init⟩ (wl2 (i := 22) rfl rfl) dX8_game_63 rfl rfl (by simp [cat_q, cat_i, cat_l, cat_r]) ⟨Nat.le_of_ble_eq_true rfl, Nat.le_of_ble_eq_true rfl⟩ ⟨Nat.le_of_ble_eq_true rfl, Nat.le_of_ble_eq_true rfl⟩ ?_
    refine th_new 0 xtX1 rfl (by decide) (wl2 (i := 19) rfl rfl) (wl2 (i := 20) rfl rfl) (wl1 (i := 13) rfl rfl) (by decide) ⟨Nat.le_of_ble_eq_true rfl, Nat.le_of_ble_eq_true rfl⟩ dX8_game_66 ?_
    refine aw_dup dX8_game_69 (cat_q _) ?_
    refine aw_iload_n 3 dX8_game_70 rfl ?_
    refine aw_iload 4 dX8_game_71 rfl ?_
    refine aw_iload 5 dX8_game_73 rfl ?_
    obtain ⟨q21, hq21, hf⟩ := xbind hf
    refine aw_callI _ [.int a3, .int a4, .int a5] 3 rfl rfl (ctX1_init hl _ _ _ _ _ hq21) ⟨wl2 (i := 21) rfl rfl, ciX1_init⟩ (wl2 (i := 22) rfl rfl) dX8_game_75 rfl rfl (by simp [cat_q, cat_i, cat_l, cat_r]) ⟨Nat.le_of_ble_eq_true rfl, Nat.le_of_ble_eq_true rfl⟩ ⟨Nat.le_of_ble_eq_true rfl, Nat.le_of_ble_eq_true rfl⟩ ?_
    obtain ⟨p22, hp22, hf⟩ := xbind hf
    obtain ⟨hk_23, hf⟩ := xifn hf
    obtain ⟨q24, hq24, hf⟩ := xbind hf
    refine aw_callV 1 (t_R a_17 t 0) [.int a1, .int a2, va_rf (some (t_sz a_17)), va_rf (some (t_sz q20))] 4 hp22 (thC_ob (h := q21) hk_23 (by decide)) rfl rfl (ctX2_begin hl _ _ _ _ _ _ hq24) ⟨wl2 (i := 35) rfl rfl, ciX2_begin⟩ (wl2 (i := 36) rfl rfl) (wl2 (i := 37) rfl rfl) dX8_game_78 rfl rfl (Nat.le_of_ble_eq_true rfl) ⟨Nat.le_of_ble_eq_true rfl, Nat.le_of_ble_eq_true rfl⟩ ⟨Nat.le_of_ble_eq_true rfl, Nat.le_of_ble_eq_true rfl⟩ ?_
    refine aw_istore [(6, .int q24.1), (0, va_rf (some t)), (1, .int a1), (2, .int a2), (3, .int a3), (4, .int a4), (5, .int a5)] dX8_game_81 (by decide) rfl ?_
    refine aw_iload 0 dX8_game_83 rfl ?_
    refine aw_if_ge 98 dX8_game_85 (by decide) (fun c25 => ?_) (fun c25 => ?_)
    · rw [if_pos c25] at hf
      refine aw_iload 0 dX8_game_98 rfl ?_
      cases hf
      exact aw_iret dX8_game_100 rfl rfl rfl ⟨Nat.le_of_ble_eq_true rfl, Nat.le_of_ble_eq_true rfl⟩
    · rw [if_neg c25] at hf
      cases hf
      exact aw_throw (M := MX8_game) (pc := 88) (names := xRTE) rfl (by decide +kernel) xRTE_fit (wl1 (i := 214) rfl rfl) (wl1 (i := 12) rfl rfl) (wm2 (i := 167) rfl) xAt_35 xGd_35 dX8_game_88 dX8_game_91 dX8_game_92 dX8_game_94 dX8_game_97 (Nat.le_of_ble_eq_true rfl) ⟨by decide, by decide⟩ ⟨Nat.le_of_ble_eq_true rfl, Nat.le_of_ble_eq_true rfl⟩
  · rw [if_pos c9] at hf
    cases hf
    exact aw_throw (M := MX8_game) (pc := 15) (names := xRTE) rfl (by decide +kernel) xRTE_fit (wl1 (i := 142) rfl rfl) (wl1 (i := 11) rfl rfl) (wm2 (i := 18) rfl) xAt_54 xGd_54 dX8_game_15 dX8_game_18 dX8_game_19 dX8_game_21 dX8_game_24 (Nat.le_of_ble_eq_true rfl) ⟨by decide, by decide⟩ ⟨Nat.le_of_ble_eq_true rfl, Nat.le_of_ble_eq_true rfl⟩
abbrev MX8_handicap : xM := (RX8, cX8_handicap, 2, (some .int), "handicap")
abbrev rmX8_handicap : Room := { frames := 7, cells := 1, slots := 6, locals := 112 }
theorem ciX8_handicap : Cond.code yX8_handicap cX8_handicap 2 (some .int) ∈ wt ∧ Cond.initialized yX8_handicap.cls ∈ wt ∧ (yX8_handicap.cls ≠ "java/lang/invoke/MethodHandle" ∧ yX8_handicap.cls ≠ "java/lang/invoke/VarHandle" ∧ (parseMethodDescriptor yX8_handicap.desc).map (fun d => d.parameters.length) = some 1) := ⟨wl3 (i := 213) rfl rfl, wl1 (i := 1) rfl rfl, by decide +kernel, by decide +kernel, by decide +kernel⟩
def fX8_handicap (h : TH) (t : Nat) (a1 : Int32) : Option ((Int32 × TH) ⊕ (String × TH)) :=
  (if t_kd h t = 7 then (fX8_matchOf h t a1).bind fun q2 => xcs q2 fun a_3 => a_3.1.bind fun p5 => (if t_kd a_3.2 p5 = 3 then some (.inl ((t_I a_3.2 p5 2), a_3.2)) else none) else none)
set_option maxHeartbeats 4000000 in
set_option maxRecDepth 100000 in
theorem ctX8_handicap {l : Launch} {g : xG} (hl : l.stackTraces = false) {r : (Int32 × TH) ⊕ (String × TH)} (h : TH) (t : Nat) (a1 : Int32) (hf : fX8_handicap h t a1 = some r) : CT yX8_handicap MX8_handicap rmX8_handicap l g [va_rf (some t), .int a1] (thE g h) (oI r) (thE g (hP r)) := by
  rw [fX8_handicap] at hf
  refine CT.of (lv0 := [(0, va_rf (some t)), (1, .int a1)]) (by decide +kernel) rfl rfl (by simp [lg_sl, cat_q, cat_i, cat_l, cat_r]) (by simp [lv_args, cat_q, cat_i, cat_l, cat_r]) hl ?_
  refine aw_qload_n 0 dX8_handicap_0 rfl ?_
  refine aw_iload_n 1 dX8_handicap_1 rfl ?_
  obtain ⟨hk_1, hf⟩ := xifn hf
  obtain ⟨q2, hq2, hf⟩ := xbind hf
  rcases q2 with a_3 | e_4
  rotate_left
  · cases hf
    exact aw_thrV (M := MX8_handicap) (pc := 2) 6 (some t) [.int a1] 1 rfl (thC_ob (h := h) hk_1 (by decide)) rfl rfl (ctX8_matchOf hl _ _ _ hq2) ⟨wl2 (i := 172) rfl rfl, ciX8_matchOf⟩ (wl2 (i := 174) rfl rfl) (wl0 (i := 8) rfl rfl) dX8_handicap_2 rfl rfl (Nat.le_of_ble_eq_true rfl) ⟨Nat.le_of_ble_eq_true rfl, Nat.le_of_ble_eq_true rfl⟩ ⟨Nat.le_of_ble_eq_true rfl, Nat.le_of_ble_eq_true rfl⟩
  have hf := xcs_l hf
  refine aw_callV 6 (some t) [.int a1] 1 rfl (thC_ob (h := h) hk_1 (by decide)) rfl rfl (ctX8_matchOf hl _ _ _ hq2) ⟨wl2 (i := 172) rfl rfl, ciX8_matchOf⟩ (wl2 (i := 174) rfl rfl) (wl0 (i := 8) rfl rfl) dX8_handicap_2 rfl rfl (Nat.le_of_ble_eq_true rfl) ⟨Nat.le_of_ble_eq_true rfl, Nat.le_of_ble_eq_true rfl⟩ ⟨Nat.le_of_ble_eq_true rfl, Nat.le_of_ble_eq_true rfl⟩ ?_
  obtain ⟨p5, hp5, hf⟩ := xbind hf
  obtain ⟨hk_6, hf⟩ := xifn hf
  refine th_getIN "AtariGarden" 2 2 inX3 hp5 hk_6 rfl ⟨by decide, by decide, rfl⟩ (wm2 (i := 131) rfl) dX8_handicap_5 ?_
  cases hf
  exact aw_iret dX8_handicap_8 rfl rfl rfl ⟨Nat.le_of_ble_eq_true rfl, Nat.le_of_ble_eq_true rfl⟩
abbrev MX8_init : xM := (RX8, cX8_init, 1, none, "<init>")
abbrev rmX8_init : Room := { frames := 2, cells := 7, slots := 169, locals := 40 }
theorem ciX8_init : Cond.code yX8_init cX8_init 1 none ∈ wt ∧ Cond.initialized yX8_init.cls ∈ wt ∧ (yX8_init.cls ≠ "java/lang/invoke/MethodHandle" ∧ yX8_init.cls ≠ "java/lang/invoke/VarHandle" ∧ (parseMethodDescriptor yX8_init.desc).map (fun d => d.parameters.length) = some 0) := ⟨wl1 (i := 22) rfl rfl, wl1 (i := 1) rfl rfl, by decide +kernel, by decide +kernel, by decide +kernel⟩
def fX8_init (h : TH) (t : Nat) : Option (TH) :=
  (fX2_init (s_N h 2 0) (t_sz h)).bind fun q1 => (if t_kd q1 t = 7 then (fX6_init (s_N (s_R q1 t 0 (some (t_sz h))) 5 0) (t_sz (s_R q1 t 0 (some (t_sz h))))).bind fun q3 => (if t_kd q3 t = 7 then some (s_R q3 t 1 (some (t_sz (s_R q1 t 0 (some (t_sz h)))))) else none) else none)
set_option maxHeartbeats 4000000 in
set_option maxRecDepth 100000 in
theorem ctX8_init {l : Launch} {g : xG} (hl : l.stackTraces = false) {r : TH} (h : TH) (t : Nat) (hf : fX8_init h t = some r) : CT yX8_init MX8_init rmX8_init l g [va_rf (some t)] (thE g h) (.inl none) (thE g r) := by
  rw [fX8_init] at hf
  refine CT.of (lv0 := [(0, va_rf (some t))]) (by decide +kernel) rfl rfl (by simp [lg_sl, cat_q, cat_i, cat_l, cat_r]) (by simp [lv_args, cat_q, cat_i, cat_l, cat_r]) hl ?_
  refine aw_qload_n 0 dX8_init_0 rfl ?_
  refine aw_objInit (r := (some t)) rfl (wl1 (i := 23) rfl rfl) dX8_init_1 (Nat.le_of_ble_eq_true rfl) ⟨Nat.le_of_ble_eq_true rfl, Nat.le_of_ble_eq_true rfl⟩ (wl1 (i := 24) rfl rfl) (wl1 (i := 25) rfl rfl) ?_
  refine aw_qload_n 0 dX8_init_4 rfl ?_
  refine th_new 1 xtX2 rfl (by decide) (wl1 (i := 26) rfl rfl) (wl1 (i := 27) rfl rfl) (wl1 (i := 2) rfl rfl) (by decide) ⟨Nat.le_of_ble_eq_true rfl, Nat.le_of_ble_eq_true rfl⟩ dX8_init_5 ?_
  refine aw_dup dX8_init_8 (cat_q _) ?_
  obtain ⟨q1, hq1, hf⟩ := xbind hf
  refine aw_callIN "AtariGarden" _ [] 0 rfl rfl (ctX2_init hl _ _ hq1) ⟨wm1 (i := 28) rfl, ciX2_init⟩ (wl1 (i := 29) rfl rfl) dX8_init_9 rfl rfl (by simp [cat_q, cat_i, cat_l, cat_r]) ⟨Nat.le_of_ble_eq_true rfl, Nat.le_of_ble_eq_true rfl⟩ ⟨Nat.le_of_ble_eq_true rfl, Nat.le_of_ble_eq_true rfl⟩ ?_
  obtain ⟨hk_2, hf⟩ := xifn hf
  refine th_putRF 6 0 xtX8 rfl hk_2 rfl ⟨by decide, by decide, rfl⟩ rfl (nar_q _ _) (fit_q _ _) (wl1 (i := 73) rfl rfl) rfl rfl rfl dX8_init_12 ?_
  refine aw_qload_n 0 dX8_init_15 rfl ?_
  refine th_new 4 xtX6 rfl (by decide) (wl1 (i := 55) rfl rfl) (wl1 (i := 56) rfl rfl) (wl1 (i := 3) rfl rfl) (by decide) ⟨Nat.le_of_ble_eq_true rfl, Nat.le_of_ble_eq_true rfl⟩ dX8_init_16 ?_
  refine aw_dup dX8_init_19 (cat_q _) ?_
  obtain ⟨q3, hq3, hf⟩ := xbind hf
  refine aw_callIN "AtariGarden" _ [] 0 rfl rfl (ctX6_init hl _ _ hq3) ⟨wm1 (i := 57) rfl, ciX6_init⟩ (wl1 (i := 58) rfl rfl) dX8_init_20 rfl rfl (by simp [cat_q, cat_i, cat_l, cat_r]) ⟨Nat.le_of_ble_eq_true rfl, Nat.le_of_ble_eq_true rfl⟩ ⟨Nat.le_of_ble_eq_true rfl, Nat.le_of_ble_eq_true rfl⟩ ?_
  obtain ⟨hk_4, hf⟩ := xifn hf
  refine th_putRF 6 1 xtX8 rfl hk_4 rfl ⟨by decide, by decide, rfl⟩ rfl (nar_q _ _) (fit_q _ _) (wl1 (i := 74) rfl rfl) rfl rfl rfl dX8_init_23 ?_
  cases hf
  exact aw_vret dX8_init_26 rfl rfl rfl ⟨Nat.le_of_ble_eq_true rfl, Nat.le_of_ble_eq_true rfl⟩
abbrev MX8_judge : xM := (RX8, cX8_judge, 3, (some .int), "judge")
abbrev rmX8_judge : Room := { frames := 7, cells := 2, slots := 12, locals := 140 }
theorem ciX8_judge : Cond.code yX8_judge cX8_judge 3 (some .int) ∈ wt ∧ Cond.initialized yX8_judge.cls ∈ wt ∧ (yX8_judge.cls ≠ "java/lang/invoke/MethodHandle" ∧ yX8_judge.cls ≠ "java/lang/invoke/VarHandle" ∧ (parseMethodDescriptor yX8_judge.desc).map (fun d => d.parameters.length) = some 1) := ⟨wl3 (i := 32) rfl rfl, wl1 (i := 1) rfl rfl, by decide +kernel, by decide +kernel, by decide +kernel⟩
def fX8_judge_20 (h : TH) (t : Nat) : Option ((Int32 × TH) ⊕ (String × TH)) :=
  some (.inr ("java/lang/IllegalStateException", h))
set_option maxHeartbeats 4000000 in
set_option maxRecDepth 100000 in
theorem wkX8_judge_20 {l : Launch} {g : xG} {x0 : xV} (hl : l.stackTraces = false) {r : (Int32 × TH) ⊕ (String × TH)} (h : TH) (t : Nat) (hf : fX8_judge_20 h t = some r) : AW MX8_judge rmX8_judge l g x0 (oI r) (thE g (hP r)) 1 6 (thE g h) 20 [] [] := by
  rw [fX8_judge_20] at hf
  cases hf
  exact aw_throw (M := MX8_judge) (pc := 20) (names := xRTE) rfl (by decide +kernel) xRTE_fit (wl1 (i := 214) rfl rfl) (wl1 (i := 12) rfl rfl) (wm3 (i := 33) rfl) xAt_35 xGd_35 dX8_judge_20 dX8_judge_23 dX8_judge_24 dX8_judge_26 dX8_judge_29 (Nat.le_of_ble_eq_true rfl) ⟨by decide, by decide⟩ ⟨Nat.le_of_ble_eq_true rfl, Nat.le_of_ble_eq_true rfl⟩
def fX8_judge (h : TH) (t : Nat) (a1 : Int32) : Option ((Int32 × TH) ⊕ (String × TH)) :=
  (if t_kd h t = 7 then (fX8_matchOf h t a1).bind fun q2 => xcs q2 fun a_3 => a_3.1.bind fun p5 => (if t_kd a_3.2 p5 = 3 then (fX3_goesOn a_3.2 p5).bind fun q7 => (if q7 = false then (if (t_I a_3.2 p5 9) = 0 then (fX3_annul a_3.2 p5).bind fun q10 => (if t_kd q10 t = 7 then (t_R q10 t 0).bind fun p12 => (if t_kd q10 p12 = 2 then (fX2_offSet q10 p12).bind fun q14 => some (.inl (q14, q10)) else none) else none) else fX8_judge_20 a_3.2 t) else fX8_judge_20 a_3.2 t) else none) else none)
set_option maxHeartbeats 4000000 in
set_option maxRecDepth 100000 in
theorem ctX8_judge {l : Launch} {g : xG} (hl : l.stackTraces = false) {r : (Int32 × TH) ⊕ (String × TH)} (h : TH) (t : Nat) (a1 : Int32) (hf : fX8_judge h t a1 = some r) : CT yX8_judge MX8_judge rmX8_judge l g [va_rf (some t), .int a1] (thE g h) (oI r) (thE g (hP r)) := by
  rw [fX8_judge] at hf
  refine CT.of (lv0 := [(0, va_rf (some t)), (1, .int a1)]) (by decide +kernel) rfl rfl (by simp [lg_sl, cat_q, cat_i, cat_l, cat_r]) (by simp [lv_args, cat_q, cat_i, cat_l, cat_r]) hl ?_
  refine aw_qload_n 0 dX8_judge_0 rfl ?_
  refine aw_iload_n 1 dX8_judge_1 rfl ?_
  obtain ⟨hk_1, hf⟩ := xifn hf
  obtain ⟨q2, hq2, hf⟩ := xbind hf
  rcases q2 with a_3 | e_4
  rotate_left
  · cases hf
    exact aw_thrV (M := MX8_judge) (pc := 2) 6 (some t) [.int a1] 1 rfl (thC_ob (h := h) hk_1 (by decide)) rfl rfl (ctX8_matchOf hl _ _ _ hq2) ⟨wl2 (i := 172) rfl rfl, ciX8_matchOf⟩ (wl2 (i := 174) rfl rfl) (wl0 (i := 8) rfl rfl) dX8_judge_2 rfl rfl (Nat.le_of_ble_eq_true rfl) ⟨Nat.le_of_ble_eq_true rfl, Nat.le_of_ble_eq_true rfl⟩ ⟨Nat.le_of_ble_eq_true rfl, Nat.le_of_ble_eq_true rfl⟩
  have hf := xcs_l hf
  refine aw_callV 6 (some t) [.int a1] 1 rfl (thC_ob (h := h) hk_1 (by decide)) rfl rfl (ctX8_matchOf hl _ _ _ hq2) ⟨wl2 (i := 172) rfl rfl, ciX8_matchOf⟩ (wl2 (i := 174) rfl rfl) (wl0 (i := 8) rfl rfl) dX8_judge_2 rfl rfl (Nat.le_of_ble_eq_true rfl) ⟨Nat.le_of_ble_eq_true rfl, Nat.le_of_ble_eq_true rfl⟩ ⟨Nat.le_of_ble_eq_true rfl, Nat.le_of_ble_eq_true rfl⟩ ?_
  refine aw_qstore_n [(2, va_rf a_3.1), (0, va_rf (some t)), (1, .int a1)] dX8_judge_5 rfl (by decide) rfl ?_
  refine aw_qload_n 0 dX8_judge_6 rfl ?_
  obtain ⟨p5, hp5, hf⟩ := xbind hf
  obtain ⟨hk_6, hf⟩ := xifn hf
  obtain ⟨q7, hq7, hf⟩ := xbind hf
  refine aw_callV 2 a_3.1 [] 0 hp5 (thC_ob (h := a_3.2) hk_6 (by decide)) rfl rfl (ctX3_goesOn hl _ _ hq7) ⟨wl2 (i := 185) rfl rfl, ciX3_goesOn⟩ (wl2 (i := 44) rfl rfl) (wl2 (i := 45) rfl rfl) dX8_judge_7 rfl rfl (Nat.le_of_ble_eq_true rfl) ⟨Nat.le_of_ble_eq_true rfl, Nat.le_of_ble_eq_true rfl⟩ ⟨Nat.le_of_ble_eq_true rfl, Nat.le_of_ble_eq_true rfl⟩ ?_
  refine aw_ifb_ne 20 dX8_judge_10 (by decide) (fun c8 => ?_) (fun c8 => ?_)
  · rw [if_neg c8] at hf
    refine aw_lv [] rfl ?_
    exact wkX8_judge_20 hl _ _ hf
  · rw [if_pos c8] at hf
    refine aw_qload_n 0 dX8_judge_13 rfl ?_
    refine th_getIN "AtariGarden" 2 9 inX3 hp5 hk_6 rfl ⟨by decide, by decide, rfl⟩ (wm2 (i := 145) rfl) dX8_judge_14 ?_
    refine aw_if_eq 30 dX8_judge_17 (by decide) (fun c9 => ?_) (fun c9 => ?_)
    · rw [if_pos c9] at hf
      refine aw_qload_n 0 dX8_judge_30 rfl ?_
      obtain ⟨q10, hq10, hf⟩ := xbind hf
      refine aw_callV 2 a_3.1 [] 0 hp5 (thC_ob (h := a_3.2) hk_6 (by decide)) rfl rfl (ctX3_annul hl _ _ hq10) ⟨wl3 (i := 34) rfl rfl, ciX3_annul⟩ (wl1 (i := 126) rfl rfl) (wl1 (i := 127) rfl rfl) dX8_judge_31 rfl rfl (Nat.le_of_ble_eq_true rfl) ⟨Nat.le_of_ble_eq_true rfl, Nat.le_of_ble_eq_true rfl⟩ ⟨Nat.le_of_ble_eq_true rfl, Nat.le_of_ble_eq_true rfl⟩ ?_
      refine aw_qload_n 1 dX8_judge_34 rfl ?_
      obtain ⟨hk_11, hf⟩ := xifn hf
      refine th_getR 6 0 inX8 rfl hk_11 rfl ⟨by decide, by decide, rfl⟩ (wl1 (i := 73) rfl rfl) dX8_judge_35 ?_
      obtain ⟨p12, hp12, hf⟩ := xbind hf
      obtain ⟨hk_13, hf⟩ := xifn hf
      obtain ⟨q14, hq14, hf⟩ := xbind hf
      refine aw_callV 1 (t_R q10 t 0) [] 0 hp12 (thC_ob (h := q10) hk_13 (by decide)) rfl rfl (ctX2_offSet hl _ _ hq14) ⟨wl3 (i := 35) rfl rfl, ciX2_offSet⟩ (wl3 (i := 36) rfl rfl) (wl3 (i := 37) rfl rfl) dX8_judge_38 rfl rfl (Nat.le_of_ble_eq_true rfl) ⟨Nat.le_of_ble_eq_true rfl, Nat.le_of_ble_eq_true rfl⟩ ⟨Nat.le_of_ble_eq_true rfl, Nat.le_of_ble_eq_true rfl⟩ ?_
      cases hf
      exact aw_iret dX8_judge_41 rfl rfl rfl ⟨Nat.le_of_ble_eq_true rfl, Nat.le_of_ble_eq_true rfl⟩
    · rw [if_neg c9] at hf
      refine aw_lv [] rfl ?_
      exact wkX8_judge_20 hl _ _ hf
abbrev MX8_ladder : xM := (RX8, cX8_ladder, 5, (some .boolean), "ladder")
abbrev rmX8_ladder : Room := { frames := 39, cells := 3, slots := 18, locals := 2362 }
theorem ciX8_ladder : Cond.code yX8_ladder cX8_ladder 5 (some .boolean) ∈ wt ∧ Cond.initialized yX8_ladder.cls ∈ wt ∧ (yX8_ladder.cls ≠ "java/lang/invoke/MethodHandle" ∧ yX8_ladder.cls ≠ "java/lang/invoke/VarHandle" ∧ (parseMethodDescriptor yX8_ladder.desc).map (fun d => d.parameters.length) = some 3) := ⟨wl3 (i := 167) rfl rfl, wl1 (i := 1) rfl rfl, by decide +kernel, by decide +kernel, by decide +kernel⟩
def fX8_ladder (h : TH) (t : Nat) (a1 : Int32) (a2 : Int32) (a3 : Int32) : Option ((Bool × TH) ⊕ (String × TH)) :=
  (if t_kd h t = 7 then (fX8_matchOf h t a1).bind fun q2 => xcs q2 fun a_3 => (fX8_requirePoint a_3.2 a2).bind fun q5 => xcs q5 fun a_6 => (fX8_requireRange a_6 a3 (1 : Int32) (8 : Int32)).bind fun q8 => xcs q8 fun a_9 => a_3.1.bind fun p11 => (if t_kd a_9 p11 = 3 then (t_R a_9 p11 6).bind fun p13 => (if t_kd a_9 p13 = 4 then (fX4_canBeCaught a_9 p13 a2 a3 (2 : Int32)).bind fun q15 => some (.inl (q15, a_9)) else none) else none) else none)
set_option maxHeartbeats 4000000 in
set_option maxRecDepth 100000 in
theorem ctX8_ladder {l : Launch} {g : xG} (hl : l.stackTraces = false) {r : (Bool × TH) ⊕ (String × TH)} (h : TH) (t : Nat) (a1 : Int32) (a2 : Int32) (a3 : Int32) (hf : fX8_ladder h t a1 a2 a3 = some r) : CT yX8_ladder MX8_ladder rmX8_ladder l g [va_rf (some t), .int a1, .int a2, .int a3] (thE g h) (oZ r) (thE g (hP r)) := by
  rw [fX8_ladder] at hf
  refine CT.of (lv0 := [(0, va_rf (some t)), (1, .int a1), (2, .int a2), (3, .int a3)]) (by decide +kernel) rfl rfl (by simp [lg_sl, cat_q, cat_i, cat_l, cat_r]) (by simp [lv_args, cat_q, cat_i, cat_l, cat_r]) hl ?_
  refine aw_qload_n 0 dX8_ladder_0 rfl ?_
  refine aw_iload_n 1 dX8_ladder_1 rfl ?_
  obtain ⟨hk_1, hf⟩ := xifn hf
  obtain ⟨q2, hq2, hf⟩ := xbind hf
  rcases q2 with a_3 | e_4
  rotate_left
  · cases hf
    exact aw_thrV (M := MX8_ladder) (pc := 2) 6 (some t) [.int a1] 1 rfl (thC_ob (h := h) hk_1 (by decide)) rfl rfl (ctX8_matchOf hl _ _ _ hq2) ⟨wl2 (i := 172) rfl rfl, ciX8_matchOf⟩ (wl2 (i := 174) rfl rfl) (wl0 (i := 8) rfl rfl) dX8_ladder_2 rfl rfl (Nat.le_of_ble_eq_true rfl) ⟨Nat.le_of_ble_eq_true rfl, Nat.le_of_ble_eq_true rfl⟩ ⟨Nat.le_of_ble_eq_true rfl, Nat.le_of_ble_eq_true rfl⟩
  have hf := xcs_l hf
  refine aw_callV 6 (some t) [.int a1] 1 rfl (thC_ob (h := h) hk_1 (by decide)) rfl rfl (ctX8_matchOf hl _ _ _ hq2) ⟨wl2 (i := 172) rfl rfl, ciX8_matchOf⟩ (wl2 (i := 174) rfl rfl) (wl0 (i := 8) rfl rfl) dX8_ladder_2 rfl rfl (Nat.le_of_ble_eq_true rfl) ⟨Nat.le_of_ble_eq_true rfl, Nat.le_of_ble_eq_true rfl⟩ ⟨Nat.le_of_ble_eq_true rfl, Nat.le_of_ble_eq_true rfl⟩ ?_
  refine aw_qstore [(4, va_rf a_3.1), (0, va_rf (some t)), (1, .int a1), (2, .int a2), (3, .int a3)] dX8_ladder_5 (by decide) rfl ?_
  refine aw_iload_n 3 dX8_ladder_7 rfl ?_
  obtain ⟨q5, hq5, hf⟩ := xbind hf
  rcases q5 with a_6 | e_7
  rotate_left
  · cases hf
    exact aw_thrS (M := MX8_ladder) (pc := 8) [.int a2] 1 (ctX8_requirePoint hl _ _ hq5) ⟨wl2 (i := 181) rfl rfl, ciX8_requirePoint⟩ (wl2 (i := 182) rfl rfl) dX8_ladder_8 rfl rfl (Nat.le_of_ble_eq_true rfl) ⟨Nat.le_of_ble_eq_true rfl, Nat.le_of_ble_eq_true rfl⟩ ⟨Nat.le_of_ble_eq_true rfl, Nat.le_of_ble_eq_true rfl⟩
  have hf := xcs_l hf
  refine aw_callS [.int a2] 1 (ctX8_requirePoint hl _ _ hq5) ⟨wl2 (i := 181) rfl rfl, ciX8_requirePoint⟩ (wl2 (i := 182) rfl rfl) dX8_ladder_8 rfl rfl (Nat.le_of_ble_eq_true rfl) ⟨Nat.le_of_ble_eq_true rfl, Nat.le_of_ble_eq_true rfl⟩ ⟨Nat.le_of_ble_eq_true rfl, Nat.le_of_ble_eq_true rfl⟩ ?_
  refine aw_iload_n 4 dX8_ladder_11 rfl ?_
  refine aw_iconst (1 : Int32) dX8_ladder_12 (by decide) ?_
  refine aw_bipush (8 : Int32) dX8_ladder_13 (by decide) ?_
  obtain ⟨q8, hq8, hf⟩ := xbind hf
  rcases q8 with a_9 | e_10
  rotate_left
  · cases hf
    exact aw_thrS (M := MX8_ladder) (pc := 15) [.int a3, .int (1 : Int32), .int (8 : Int32)] 3 (ctX8_requireRange hl _ _ _ _ hq8) ⟨wl1 (i := 139) rfl rfl, ciX8_requireRange⟩ (wl1 (i := 140) rfl rfl) dX8_ladder_15 rfl rfl (Nat.le_of_ble_eq_true rfl) ⟨Nat.le_of_ble_eq_true rfl, Nat.le_of_ble_eq_true rfl⟩ ⟨Nat.le_of_ble_eq_true rfl, Nat.le_of_ble_eq_true rfl⟩
  have hf := xcs_l hf
  refine aw_callS [.int a3, .int (1 : Int32), .int (8 : Int32)] 3 (ctX8_requireRange hl _ _ _ _ hq8) ⟨wl1 (i := 139) rfl rfl, ciX8_requireRange⟩ (wl1 (i := 140) rfl rfl) dX8_ladder_15 rfl rfl (Nat.le_of_ble_eq_true rfl) ⟨Nat.le_of_ble_eq_true rfl, Nat.le_of_ble_eq_true rfl⟩ ⟨Nat.le_of_ble_eq_true rfl, Nat.le_of_ble_eq_true rfl⟩ ?_
  refine aw_qload 0 dX8_ladder_18 rfl ?_
  obtain ⟨p11, hp11, hf⟩ := xbind hf
  obtain ⟨hk_12, hf⟩ := xifn hf
  refine th_getRN "AtariGarden" 2 6 inX3 hp11 hk_12 rfl ⟨by decide, by decide, rfl⟩ (wm2 (i := 138) rfl) dX8_ladder_20 ?_
  refine aw_iload_n 3 dX8_ladder_23 rfl ?_
  refine aw_iload_n 4 dX8_ladder_24 rfl ?_
  refine aw_iconst (2 : Int32) dX8_ladder_25 (by decide) ?_
  obtain ⟨p13, hp13, hf⟩ := xbind hf
  obtain ⟨hk_14, hf⟩ := xifn hf
  obtain ⟨q15, hq15, hf⟩ := xbind hf
  refine aw_callV 3 (t_R a_9 p11 6) [.int a2, .int a3, .int (2 : Int32)] 3 hp13 (thC_ob (h := a_9) hk_14 (by decide)) rfl rfl (ctX4_canBeCaught hl _ _ _ _ _ hq15) ⟨wl3 (i := 168) rfl rfl, ciX4_canBeCaught⟩ (wl3 (i := 169) rfl rfl) (wl3 (i := 170) rfl rfl) dX8_ladder_26 rfl rfl (Nat.le_of_ble_eq_true rfl) ⟨Nat.le_of_ble_eq_true rfl, Nat.le_of_ble_eq_true rfl⟩ ⟨Nat.le_of_ble_eq_true rfl, Nat.le_of_ble_eq_true rfl⟩ ?_
  cases hf
  exact aw_zret dX8_ladder_29 rfl (nar_b _) rfl rfl ⟨Nat.le_of_ble_eq_true rfl, Nat.le_of_ble_eq_true rfl⟩
abbrev MX8_lesson : xM := (RX8, cX8_lesson, 6, (some .int), "lesson")
abbrev rmX8_lesson : Room := { frames := 7, cells := 5, slots := 30, locals := 112 }
theorem ciX8_lesson : Cond.code yX8_lesson cX8_lesson 6 (some .int) ∈ wt ∧ Cond.initialized yX8_lesson.cls ∈ wt ∧ (yX8_lesson.cls ≠ "java/lang/invoke/MethodHandle" ∧ yX8_lesson.cls ≠ "java/lang/invoke/VarHandle" ∧ (parseMethodDescriptor yX8_lesson.desc).map (fun d => d.parameters.length) = some 2) := ⟨wl3 (i := 42) rfl rfl, wl1 (i := 1) rfl rfl, by decide +kernel, by decide +kernel, by decide +kernel⟩
def fX8_lesson_47 (h : TH) (t : Nat) (s0 : Int32) : Option ((Int32 × TH) ⊕ (String × TH)) :=
  (if 0 ≤ s0 then some (.inl (s0, h)) else some (.inr ("java/lang/IllegalStateException", h)))
set_option maxHeartbeats 4000000 in
set_option maxRecDepth 100000 in
theorem wkX8_lesson_47 {l : Launch} {g : xG} {x0 : xV} (hl : l.stackTraces = false) {r : (Int32 × TH) ⊕ (String × TH)} (h : TH) (t : Nat) (s0 : Int32) (hf : fX8_lesson_47 h t s0 = some r) : AW MX8_lesson rmX8_lesson l g x0 (oI r) (thE g (hP r)) 4 24 (thE g h) 47 [] [.int s0] := by
  rw [fX8_lesson_47] at hf
  refine aw_istore [(5, .int s0)] dX8_lesson_47 (by decide) rfl ?_
  refine aw_iload 0 dX8_lesson_49 rfl ?_
  refine aw_if_ge 64 dX8_lesson_51 (by decide) (fun c1 => ?_) (fun c1 => ?_)
  · rw [if_pos c1] at hf
    refine aw_iload 0 dX8_lesson_64 rfl ?_
    cases hf
    exact aw_iret dX8_lesson_66 rfl rfl rfl ⟨Nat.le_of_ble_eq_true rfl, Nat.le_of_ble_eq_true rfl⟩
  · rw [if_neg c1] at hf
    cases hf
    exact aw_throw (M := MX8_lesson) (pc := 54) (names := xRTE) rfl (by decide +kernel) xRTE_fit (wl1 (i := 214) rfl rfl) (wl1 (i := 12) rfl rfl) (wm3 (i := 92) rfl) xAt_35 xGd_35 dX8_lesson_54 dX8_lesson_57 dX8_lesson_58 dX8_lesson_60 dX8_lesson_63 (Nat.le_of_ble_eq_true rfl) ⟨by decide, by decide⟩ ⟨Nat.le_of_ble_eq_true rfl, Nat.le_of_ble_eq_true rfl⟩
def fX8_lesson (h : TH) (t : Nat) (a1 : Int32) (a2 : Int32) : Option ((Int32 × TH) ⊕ (String × TH)) :=
  (if t_kd h t = 7 then (fX8_matchOf h t a1).bind fun q2 => xcs q2 fun a_3 => a_3.1.bind fun p5 => (if t_kd a_3.2 p5 = 3 then (t_R a_3.2 p5 6).bind fun p7 => (if t_kd a_3.2 p7 = 4 then (fX8_requireRange a_3.2 a2 (0 : Int32) (t_I a_3.2 p7 3)).bind fun q9 => xcs q9 fun a_10 => (if t_kd a_10 p5 = 3 then (t_R a_10 p5 6).bind fun p13 => (if t_kd a_10 p13 = 4 then (fX4_behind a_10 p13 a2).bind fun q15 => (if q15 = none then fX8_lesson_47 a_10 t (-1 : Int32) else (if t_kd a_10 t = 7 then (t_R a_10 t 1).bind fun p18 => (if t_kd a_10 p18 = 5 then (fX6_begin a_10 p18 a1 q15).bind fun q20 => fX8_lesson_47 q20.2 t q20.1 else none) else none)) else none) else none) else none) else none) else none)
set_option maxHeartbeats 4000000 in
set_option maxRecDepth 100000 in
theorem ctX8_lesson {l : Launch} {g : xG} (hl : l.stackTraces = false) {r : (Int32 × TH) ⊕ (String × TH)} (h : TH) (t : Nat) (a1 : Int32) (a2 : Int32) (hf : fX8_lesson h t a1 a2 = some r) : CT yX8_lesson MX8_lesson rmX8_lesson l g [va_rf (some t), .int a1, .int a2] (thE g h) (oI r) (thE g (hP r)) := by
  rw [fX8_lesson] at hf
  refine CT.of (lv0 := [(0, va_rf (some t)), (1, .int a1), (2, .int a2)]) (by decide +kernel) rfl rfl (by simp [lg_sl, cat_q, cat_i, cat_l, cat_r]) (by simp [lv_args, cat_q, cat_i, cat_l, cat_r]) hl ?_
  refine aw_qload_n 0 dX8_lesson_0 rfl ?_
  refine aw_iload_n 1 dX8_lesson_1 rfl ?_
  obtain ⟨hk_1, hf⟩ := xifn hf
  obtain ⟨q2, hq2, hf⟩ := xbind hf
  rcases q2 with a_3 | e_4
  rotate_left
  · cases hf
    exact aw_thrV (M := MX8_lesson) (pc := 2) 6 (some t) [.int a1] 1 rfl (thC_ob (h := h) hk_1 (by decide)) rfl rfl (ctX8_matchOf hl _ _ _ hq2) ⟨wl2 (i := 172) rfl rfl, ciX8_matchOf⟩ (wl2 (i := 174) rfl rfl) (wl0 (i := 8) rfl rfl) dX8_lesson_2 rfl rfl (Nat.le_of_ble_eq_true rfl) ⟨Nat.le_of_ble_eq_true rfl, Nat.le_of_ble_eq_true rfl⟩ ⟨Nat.le_of_ble_eq_true rfl, Nat.le_of_ble_eq_true rfl⟩
  have hf := xcs_l hf
  refine aw_callV 6 (some t) [.int a1] 1 rfl (thC_ob (h := h) hk_1 (by decide)) rfl rfl (ctX8_matchOf hl _ _ _ hq2) ⟨wl2 (i := 172) rfl rfl, ciX8_matchOf⟩ (wl2 (i := 174) rfl rfl) (wl0 (i := 8) rfl rfl) dX8_lesson_2 rfl rfl (Nat.le_of_ble_eq_true rfl) ⟨Nat.le_of_ble_eq_true rfl, Nat.le_of_ble_eq_true rfl⟩ ⟨Nat.le_of_ble_eq_true rfl, Nat.le_of_ble_eq_true rfl⟩ ?_
  refine aw_qstore_n [(3, va_rf a_3.1), (0, va_rf (some t)), (1, .int a1), (2, .int a2)] dX8_lesson_5 rfl (by decide) rfl ?_
  refine aw_iload_n 3 dX8_lesson_6 rfl ?_
  refine aw_iconst (0 : Int32) dX8_lesson_7 (by decide) ?_
  refine aw_qload_n 0 dX8_lesson_8 rfl ?_
  obtain ⟨p5, hp5, hf⟩ := xbind hf
  obtain ⟨hk_6, hf⟩ := xifn hf
  refine th_getRN "AtariGarden" 2 6 inX3 hp5 hk_6 rfl ⟨by decide, by decide, rfl⟩ (wm2 (i := 138) rfl) dX8_lesson_9 ?_
  obtain ⟨p7, hp7, hf⟩ := xbind hf
  obtain ⟨hk_8, hf⟩ := xifn hf
  refine th_getIN "AtariGarden" 3 3 inX4 hp7 hk_8 rfl ⟨by decide, by decide, rfl⟩ (wm2 (i := 70) rfl) dX8_lesson_12 ?_
  obtain ⟨q9, hq9, hf⟩ := xbind hf
  rcases q9 with a_10 | e_11
  rotate_left
  · cases hf
    exact aw_thrS (M := MX8_lesson) (pc := 15) [.int a2, .int (0 : Int32), .int (t_I a_3.2 p7 3)] 3 (ctX8_requireRange hl _ _ _ _ hq9) ⟨wl1 (i := 139) rfl rfl, ciX8_requireRange⟩ (wl1 (i := 140) rfl rfl) dX8_lesson_15 rfl rfl (Nat.le_of_ble_eq_true rfl) ⟨Nat.le_of_ble_eq_true rfl, Nat.le_of_ble_eq_true rfl⟩ ⟨Nat.le_of_ble_eq_true rfl, Nat.le_of_ble_eq_true rfl⟩
  have hf := xcs_l hf
  refine aw_callS [.int a2, .int (0 : Int32), .int (t_I a_3.2 p7 3)] 3 (ctX8_requireRange hl _ _ _ _ hq9) ⟨wl1 (i := 139) rfl rfl, ciX8_requireRange⟩ (wl1 (i := 140) rfl rfl) dX8_lesson_15 rfl rfl (Nat.le_of_ble_eq_true rfl) ⟨Nat.le_of_ble_eq_true rfl, Nat.le_of_ble_eq_true rfl⟩ ⟨Nat.le_of_ble_eq_true rfl, Nat.le_of_ble_eq_true rfl⟩ ?_
  refine aw_qload_n 0 dX8_lesson_18 rfl ?_
  obtain ⟨hk_12, hf⟩ := xifn hf
  refine th_getRN "AtariGarden" 2 6 inX3 hp5 hk_12 rfl ⟨by decide, by decide, rfl⟩ (wm2 (i := 138) rfl) dX8_lesson_19 ?_
  refine aw_iload_n 3 dX8_lesson_22 rfl ?_
  obtain ⟨p13, hp13, hf⟩ := xbind hf
  obtain ⟨hk_14, hf⟩ := xifn hf
  obtain ⟨q15, hq15, hf⟩ := xbind hf
  refine aw_callV 3 (t_R a_10 p5 6) [.int a2] 1 hp13 (thC_ob (h := a_10) hk_14 (by decide)) rfl rfl (ctX4_behind hl _ _ _ hq15) ⟨wl3 (i := 43) rfl rfl, ciX4_behind⟩ (wl3 (i := 44) rfl rfl) (wl3 (i := 45) rfl rfl) dX8_lesson_23 rfl rfl (Nat.le_of_ble_eq_true rfl) ⟨Nat.le_of_ble_eq_true rfl, Nat.le_of_ble_eq_true rfl⟩ ⟨Nat.le_of_ble_eq_true rfl, Nat.le_of_ble_eq_true rfl⟩ ?_
  refine aw_qstore [(4, va_rf q15), (3, va_rf a_3.1), (0, va_rf (some t)), (1, .int a1), (2, .int a2)] dX8_lesson_26 (by decide) (by simp [cat_q, cat_i, cat_l, cat_r]) ?_
  refine aw_qload 0 dX8_lesson_28 rfl ?_
  refine aw_ifnonnull 37 dX8_lesson_30 (by decide) (fun c16 => ?_) (fun c16 => ?_)
  · rw [if_neg c16] at hf
    refine aw_qload_n 2 dX8_lesson_37 rfl ?_
    obtain ⟨hk_17, hf⟩ := xifn hf
    refine th_getR 6 1 inX8 rfl hk_17 rfl ⟨by decide, by decide, rfl⟩ (wl1 (i := 74) rfl rfl) dX8_lesson_38 ?_
    refine aw_iload_n 3 dX8_lesson_41 rfl ?_
    refine aw_qload 0 dX8_lesson_42 rfl ?_
    obtain ⟨p18, hp18, hf⟩ := xbind hf
    obtain ⟨hk_19, hf⟩ := xifn hf
    obtain ⟨q20, hq20, hf⟩ := xbind hf
    refine aw_callV 4 (t_R a_10 t 1) [.int a1, va_rf q15] 2 hp18 (thC_ob (h := a_10) hk_19 (by decide)) rfl rfl (ctX6_begin hl _ _ _ _ hq20) ⟨wl3 (i := 47) rfl rfl, ciX6_begin⟩ (wl3 (i := 48) rfl rfl) (wl3 (i := 49) rfl rfl) dX8_lesson_44 rfl rfl (Nat.le_of_ble_eq_true rfl) ⟨Nat.le_of_ble_eq_true rfl, Nat.le_of_ble_eq_true rfl⟩ ⟨Nat.le_of_ble_eq_true rfl, Nat.le_of_ble_eq_true rfl⟩ ?_
    refine aw_lv [] rfl ?_
    exact wkX8_lesson_47 hl _ _ _ hf
  · rw [if_pos c16] at hf
    refine aw_iconst (-1 : Int32) dX8_lesson_33 (by decide) ?_
    refine aw_goto 47 dX8_lesson_34 (by decide) ?_
    refine aw_lv [] rfl ?_
    refine aw_widen 4 24 (Nat.le_of_ble_eq_true rfl) (Nat.le_of_ble_eq_true rfl) ?_
    exact wkX8_lesson_47 hl _ _ _ hf
abbrev MX8_liberties : xM := (RX8, cX8_liberties, 4, (some .int), "liberties")
abbrev rmX8_liberties : Room := { frames := 7, cells := 2, slots := 12, locals := 112 }
theorem ciX8_liberties : Cond.code yX8_liberties cX8_liberties 4 (some .int) ∈ wt ∧ Cond.initialized yX8_liberties.cls ∈ wt ∧ (yX8_liberties.cls ≠ "java/lang/invoke/MethodHandle" ∧ yX8_liberties.cls ≠ "java/lang/invoke/VarHandle" ∧ (parseMethodDescriptor yX8_liberties.desc).map (fun d => d.parameters.length) = some 2) := ⟨wl4 (i := 0) rfl rfl, wl1 (i := 1) rfl rfl, by decide +kernel, by decide +kernel, by decide +kernel⟩
def fX8_liberties (h : TH) (t : Nat) (a1 : Int32) (a2 : Int32) : Option ((Int32 × TH) ⊕ (String × TH)) :=
  (if t_kd h t = 7 then (fX8_matchOf h t a1).bind fun q2 => xcs q2 fun a_3 => (fX8_requirePoint a_3.2 a2).bind fun q5 => xcs q5 fun a_6 => a_3.1.bind fun p8 => (if t_kd a_6 p8 = 3 then (fX3_keptLiberties a_6 p8 a2).bind fun q10 => some (.inl (q10, a_6)) else none) else none)
set_option maxHeartbeats 4000000 in
set_option maxRecDepth 100000 in
theorem ctX8_liberties {l : Launch} {g : xG} (hl : l.stackTraces = false) {r : (Int32 × TH) ⊕ (String × TH)} (h : TH) (t : Nat) (a1 : Int32) (a2 : Int32) (hf : fX8_liberties h t a1 a2 = some r) : CT yX8_liberties MX8_liberties rmX8_liberties l g [va_rf (some t), .int a1, .int a2] (thE g h) (oI r) (thE g (hP r)) := by
  rw [fX8_liberties] at hf
  refine CT.of (lv0 := [(0, va_rf (some t)), (1, .int a1), (2, .int a2)]) (by decide +kernel) rfl rfl (by simp [lg_sl, cat_q, cat_i, cat_l, cat_r]) (by simp [lv_args, cat_q, cat_i, cat_l, cat_r]) hl ?_
  refine aw_qload_n 0 dX8_liberties_0 rfl ?_
  refine aw_iload_n 1 dX8_liberties_1 rfl ?_
  obtain ⟨hk_1, hf⟩ := xifn hf
  obtain ⟨q2, hq2, hf⟩ := xbind hf
  rcases q2 with a_3 | e_4
  rotate_left
  · cases hf
    exact aw_thrV (M := MX8_liberties) (pc := 2) 6 (some t) [.int a1] 1 rfl (thC_ob (h := h) hk_1 (by decide)) rfl rfl (ctX8_matchOf hl _ _ _ hq2) ⟨wl2 (i := 172) rfl rfl, ciX8_matchOf⟩ (wl2 (i := 174) rfl rfl) (wl0 (i := 8) rfl rfl) dX8_liberties_2 rfl rfl (Nat.le_of_ble_eq_true rfl) ⟨Nat.le_of_ble_eq_true rfl, Nat.le_of_ble_eq_true rfl⟩ ⟨Nat.le_of_ble_eq_true rfl, Nat.le_of_ble_eq_true rfl⟩
  have hf := xcs_l hf
  refine aw_callV 6 (some t) [.int a1] 1 rfl (thC_ob (h := h) hk_1 (by decide)) rfl rfl (ctX8_matchOf hl _ _ _ hq2) ⟨wl2 (i := 172) rfl rfl, ciX8_matchOf⟩ (wl2 (i := 174) rfl rfl) (wl0 (i := 8) rfl rfl) dX8_liberties_2 rfl rfl (Nat.le_of_ble_eq_true rfl) ⟨Nat.le_of_ble_eq_true rfl, Nat.le_of_ble_eq_true rfl⟩ ⟨Nat.le_of_ble_eq_true rfl, Nat.le_of_ble_eq_true rfl⟩ ?_
  refine aw_qstore_n [(3, va_rf a_3.1), (0, va_rf (some t)), (1, .int a1), (2, .int a2)] dX8_liberties_5 rfl (by decide) rfl ?_
  refine aw_iload_n 3 dX8_liberties_6 rfl ?_
  obtain ⟨q5, hq5, hf⟩ := xbind hf
  rcases q5 with a_6 | e_7
  rotate_left
  · cases hf
    exact aw_thrS (M := MX8_liberties) (pc := 7) [.int a2] 1 (ctX8_requirePoint hl _ _ hq5) ⟨wl2 (i := 181) rfl rfl, ciX8_requirePoint⟩ (wl2 (i := 182) rfl rfl) dX8_liberties_7 rfl rfl (Nat.le_of_ble_eq_true rfl) ⟨Nat.le_of_ble_eq_true rfl, Nat.le_of_ble_eq_true rfl⟩ ⟨Nat.le_of_ble_eq_true rfl, Nat.le_of_ble_eq_true rfl⟩
  have hf := xcs_l hf
  refine aw_callS [.int a2] 1 (ctX8_requirePoint hl _ _ hq5) ⟨wl2 (i := 181) rfl rfl, ciX8_requirePoint⟩ (wl2 (i := 182) rfl rfl) dX8_liberties_7 rfl rfl (Nat.le_of_ble_eq_true rfl) ⟨Nat.le_of_ble_eq_true rfl, Nat.le_of_ble_eq_true rfl⟩ ⟨Nat.le_of_ble_eq_true rfl, Nat.le_of_ble_eq_true rfl⟩ ?_
  refine aw_qload_n 0 dX8_liberties_10 rfl ?_
  refine aw_iload_n 3 dX8_liberties_11 rfl ?_
  obtain ⟨p8, hp8, hf⟩ := xbind hf
  obtain ⟨hk_9, hf⟩ := xifn hf
  obtain ⟨q10, hq10, hf⟩ := xbind hf
  refine aw_callV 2 a_3.1 [.int a2] 1 hp8 (thC_ob (h := a_6) hk_9 (by decide)) rfl rfl (ctX3_keptLiberties hl _ _ _ hq10) ⟨wl4 (i := 1) rfl rfl, ciX3_keptLiberties⟩ (wl4 (i := 2) rfl rfl) (wl4 (i := 3) rfl rfl) dX8_liberties_12 rfl rfl (Nat.le_of_ble_eq_true rfl) ⟨Nat.le_of_ble_eq_true rfl, Nat.le_of_ble_eq_true rfl⟩ ⟨Nat.le_of_ble_eq_true rfl, Nat.le_of_ble_eq_true rfl⟩ ?_
  cases hf
  exact aw_iret dX8_liberties_15 rfl rfl rfl ⟨Nat.le_of_ble_eq_true rfl, Nat.le_of_ble_eq_true rfl⟩
abbrev MX8_mark : xM := (RX8, cX8_mark, 5, (some .int), "mark")
abbrev rmX8_mark : Room := { frames := 7, cells := 2, slots := 12, locals := 112 }
theorem ciX8_mark : Cond.code yX8_mark cX8_mark 5 (some .int) ∈ wt ∧ Cond.initialized yX8_mark.cls ∈ wt ∧ (yX8_mark.cls ≠ "java/lang/invoke/MethodHandle" ∧ yX8_mark.cls ≠ "java/lang/invoke/VarHandle" ∧ (parseMethodDescriptor yX8_mark.desc).map (fun d => d.parameters.length) = some 3) := ⟨wl3 (i := 124) rfl rfl, wl1 (i := 1) rfl rfl, by decide +kernel, by decide +kernel, by decide +kernel⟩
def fX8_mark_16 (h : TH) (t : Nat) : Option ((Int32 × TH) ⊕ (String × TH)) :=
  some (.inr ("java/lang/IndexOutOfBoundsException", h))
set_option maxHeartbeats 4000000 in
set_option maxRecDepth 100000 in
theorem wkX8_mark_16 {l : Launch} {g : xG} {x0 : xV} (hl : l.stackTraces = false) {r : (Int32 × TH) ⊕ (String × TH)} (h : TH) (t : Nat) (hf : fX8_mark_16 h t = some r) : AW MX8_mark rmX8_mark l g x0 (oI r) (thE g (hP r)) 1 6 (thE g h) 16 [] [] := by
  rw [fX8_mark_16] at hf
  cases hf
  exact aw_throw (M := MX8_mark) (pc := 16) (names := xRTE) rfl (by decide +kernel) xRTE_fit (wl2 (i := 2) rfl rfl) (wl1 (i := 7) rfl rfl) (wm3 (i := 125) rfl) xAt_127 xGd_127 dX8_mark_16 dX8_mark_19 dX8_mark_20 dX8_mark_22 dX8_mark_25 (Nat.le_of_ble_eq_true rfl) ⟨by decide, by decide⟩ ⟨Nat.le_of_ble_eq_true rfl, Nat.le_of_ble_eq_true rfl⟩
def fX8_mark (h : TH) (t : Nat) (a1 : Int32) (a2 : Int32) (a3 : Int32) : Option ((Int32 × TH) ⊕ (String × TH)) :=
  (if t_kd h t = 7 then (fX8_twigOf h t a1).bind fun q2 => xcs q2 fun a_3 => (if a2 < 0 then fX8_mark_16 a_3.2 t else (if a2 < (4 : Int32) then (fX8_requireRange a_3.2 a3 (0 : Int32) (3 : Int32)).bind fun q7 => xcs q7 fun a_8 => a_3.1.bind fun p10 => (if t_kd a_8 p10 = 6 then (fX7_changeMark a_8 p10 a2 a3).bind fun q12 => some (.inl (q12.1, q12.2)) else none) else fX8_mark_16 a_3.2 t)) else none)
set_option maxHeartbeats 4000000 in
set_option maxRecDepth 100000 in
theorem ctX8_mark {l : Launch} {g : xG} (hl : l.stackTraces = false) {r : (Int32 × TH) ⊕ (String × TH)} (h : TH) (t : Nat) (a1 : Int32) (a2 : Int32) (a3 : Int32) (hf : fX8_mark h t a1 a2 a3 = some r) : CT yX8_mark MX8_mark rmX8_mark l g [va_rf (some t), .int a1, .int a2, .int a3] (thE g h) (oI r) (thE g (hP r)) := by
  rw [fX8_mark] at hf
  refine CT.of (lv0 := [(0, va_rf (some t)), (1, .int a1), (2, .int a2), (3, .int a3)]) (by decide +kernel) rfl rfl (by simp [lg_sl, cat_q, cat_i, cat_l, cat_r]) (by simp [lv_args, cat_q, cat_i, cat_l, cat_r]) hl ?_
  refine aw_qload_n 0 dX8_mark_0 rfl ?_
  refine aw_iload_n 1 dX8_mark_1 rfl ?_
  obtain ⟨hk_1, hf⟩ := xifn hf
  obtain ⟨q2, hq2, hf⟩ := xbind hf
  rcases q2 with a_3 | e_4
  rotate_left
  · cases hf
    exact aw_thrV (M := MX8_mark) (pc := 2) 6 (some t) [.int a1] 1 rfl (thC_ob (h := h) hk_1 (by decide)) rfl rfl (ctX8_twigOf hl _ _ _ hq2) ⟨wl3 (i := 97) rfl rfl, ciX8_twigOf⟩ (wl3 (i := 99) rfl rfl) (wl0 (i := 11) rfl rfl) dX8_mark_2 rfl rfl (Nat.le_of_ble_eq_true rfl) ⟨Nat.le_of_ble_eq_true rfl, Nat.le_of_ble_eq_true rfl⟩ ⟨Nat.le_of_ble_eq_true rfl, Nat.le_of_ble_eq_true rfl⟩
  have hf := xcs_l hf
  refine aw_callV 6 (some t) [.int a1] 1 rfl (thC_ob (h := h) hk_1 (by decide)) rfl rfl (ctX8_twigOf hl _ _ _ hq2) ⟨wl3 (i := 97) rfl rfl, ciX8_twigOf⟩ (wl3 (i := 99) rfl rfl) (wl0 (i := 11) rfl rfl) dX8_mark_2 rfl rfl (Nat.le_of_ble_eq_true rfl) ⟨Nat.le_of_ble_eq_true rfl, Nat.le_of_ble_eq_true rfl⟩ ⟨Nat.le_of_ble_eq_true rfl, Nat.le_of_ble_eq_true rfl⟩ ?_
  refine aw_qstore [(4, va_rf a_3.1), (0, va_rf (some t)), (1, .int a1), (2, .int a2), (3, .int a3)] dX8_mark_5 (by decide) rfl ?_
  refine aw_iload_n 3 dX8_mark_7 rfl ?_
  refine aw_if_lt 16 dX8_mark_8 (by decide) (fun c5 => ?_) (fun c5 => ?_)
  · rw [if_pos c5] at hf
    refine aw_lv [] rfl ?_
    exact wkX8_mark_16 hl _ _ hf
  · rw [if_neg c5] at hf
    refine aw_iload_n 3 dX8_mark_11 rfl ?_
    refine aw_iconst (4 : Int32) dX8_mark_12 (by decide) ?_
    refine aw_icmp_lt 26 dX8_mark_13 (by decide) (fun c6 => ?_) (fun c6 => ?_)
    · rw [if_pos c6] at hf
      refine aw_iload_n 4 dX8_mark_26 rfl ?_
      refine aw_iconst (0 : Int32) dX8_mark_27 (by decide) ?_
      refine aw_iconst (3 : Int32) dX8_mark_28 (by decide) ?_
      obtain ⟨q7, hq7, hf⟩ := xbind hf
      rcases q7 with a_8 | e_9
      rotate_left
      · cases hf
        exact aw_thrS (M := MX8_mark) (pc := 29) [.int a3, .int (0 : Int32), .int (3 : Int32)] 3 (ctX8_requireRange hl _ _ _ _ hq7) ⟨wl1 (i := 139) rfl rfl, ciX8_requireRange⟩ (wl1 (i := 140) rfl rfl) dX8_mark_29 rfl rfl (Nat.le_of_ble_eq_true rfl) ⟨Nat.le_of_ble_eq_true rfl, Nat.le_of_ble_eq_true rfl⟩ ⟨Nat.le_of_ble_eq_true rfl, Nat.le_of_ble_eq_true rfl⟩
      have hf := xcs_l hf
      refine aw_callS [.int a3, .int (0 : Int32), .int (3 : Int32)] 3 (ctX8_requireRange hl _ _ _ _ hq7) ⟨wl1 (i := 139) rfl rfl, ciX8_requireRange⟩ (wl1 (i := 140) rfl rfl) dX8_mark_29 rfl rfl (Nat.le_of_ble_eq_true rfl) ⟨Nat.le_of_ble_eq_true rfl, Nat.le_of_ble_eq_true rfl⟩ ⟨Nat.le_of_ble_eq_true rfl, Nat.le_of_ble_eq_true rfl⟩ ?_
      refine aw_qload 0 dX8_mark_32 rfl ?_
      refine aw_iload_n 3 dX8_mark_34 rfl ?_
      refine aw_iload_n 4 dX8_mark_35 rfl ?_
      obtain ⟨p10, hp10, hf⟩ := xbind hf
      obtain ⟨hk_11, hf⟩ := xifn hf
      obtain ⟨q12, hq12, hf⟩ := xbind hf
      refine aw_callV 5 a_3.1 [.int a2, .int a3] 2 hp10 (thC_ob (h := a_8) hk_11 (by decide)) rfl rfl (ctX7_changeMark hl _ _ _ _ hq12) ⟨wl3 (i := 126) rfl rfl, ciX7_changeMark⟩ (wl3 (i := 127) rfl rfl) (wl3 (i := 128) rfl rfl) dX8_mark_36 rfl rfl (Nat.le_of_ble_eq_true rfl) ⟨Nat.le_of_ble_eq_true rfl, Nat.le_of_ble_eq_true rfl⟩ ⟨Nat.le_of_ble_eq_true rfl, Nat.le_of_ble_eq_true rfl⟩ ?_
      cases hf
      exact aw_iret dX8_mark_39 rfl rfl rfl ⟨Nat.le_of_ble_eq_true rfl, Nat.le_of_ble_eq_true rfl⟩
    · rw [if_neg c6] at hf
      refine aw_lv [] rfl ?_
      exact wkX8_mark_16 hl _ _ hf
