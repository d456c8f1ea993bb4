abbrev MX9_ladder : xM := (RX9, cX9_ladder, 5, (some .boolean), "ladder")
abbrev rmX9_ladder : Room := { frames := 7, cells := 0, slots := 0, locals := 204 }
theorem ciX9_ladder : Cond.code yX9_ladder cX9_ladder 5 (some .boolean) ∈ wt ∧ Cond.initialized yX9_ladder.cls ∈ wt ∧ (yX9_ladder.cls ≠ "java/lang/invoke/MethodHandle" ∧ yX9_ladder.cls ≠ "java/lang/invoke/VarHandle" ∧ (parseMethodDescriptor yX9_ladder.desc).map (fun d => d.parameters.length) = some 3) := ⟨wl5 (i := 206) rfl rfl, wl1 (i := 4) rfl rfl, by decide +kernel, by decide +kernel, by decide +kernel⟩
def fX9_ladder_47 (S : MS) (a1 : Int32) (a2 : Int32) (a3 : Int32) (s1 : Int32) : Option (Bool × MS) :=
  (fX9_fails S s1).bind fun q1 => (if q1.1 = false then (fX9_reads q1.2 a1 a2 a3 (2 : Int32)).bind fun q3 => (if q3.1 = false then some (false, q3.2) else some (true, q3.2)) else some (false, q1.2))
set_option maxHeartbeats 4000000 in
set_option maxRecDepth 100000 in
theorem wkX9_ladder_47 {l : Launch} {g : xG} {x0 : xV} {mo sz : Nat} (hl : l.stackTraces = false) {r : Bool × MS} (S : MS) (a1 : Int32) (a2 : Int32) (a3 : Int32) (s1 : Int32) (hf : fX9_ladder_47 S a1 a2 a3 s1 = some r) : AW MX9_ladder rmX9_ladder l g x0 (.inl (some (.int (bi r.1)))) (moE g mo sz r.2) 0 0 (moE g mo sz S) 47 [(0, .ref mo), (1, .int a1), (2, .int a2), (3, .int a3)] [.int s1, .ref mo] := by
  rw [fX9_ladder_47] at hf
  obtain ⟨q1, hq1, hf⟩ := xbind hf
  refine aw_callV 7 (some mo) [.int s1] 1 rfl mo_ob rfl rfl (ctX9_fails hl _ _ hq1) ⟨wl5 (i := 16) rfl rfl, ciX9_fails⟩ (wl5 (i := 18) rfl rfl) (wl0 (i := 19) rfl rfl) dX9_ladder_47 rfl rfl (Nat.le_of_ble_eq_true rfl) ⟨Nat.le_of_ble_eq_true rfl, Nat.le_of_ble_eq_true rfl⟩ ⟨Nat.le_of_ble_eq_true rfl, Nat.le_of_ble_eq_true rfl⟩ ?_
  refine aw_ifb_ne 68 dX9_ladder_50 (by decide) (fun c2 => ?_) (fun c2 => ?_)
  · rw [if_neg c2] at hf
    refine aw_iconst (0 : Int32) dX9_ladder_68 (by decide) ?_
    cases hf
    exact aw_zret dX9_ladder_69 rfl rfl rfl rfl ⟨Nat.le_of_ble_eq_true rfl, Nat.le_of_ble_eq_true rfl⟩
  · rw [if_pos c2] at hf
    refine aw_aload_n 0 dX9_ladder_53 rfl ?_
    refine aw_iload_n 1 dX9_ladder_54 rfl ?_
    refine aw_iload_n 2 dX9_ladder_55 rfl ?_
    refine aw_iload_n 3 dX9_ladder_56 rfl ?_
    refine aw_iconst (2 : Int32) dX9_ladder_57 (by decide) ?_
    obtain ⟨q3, hq3, hf⟩ := xbind hf
    refine aw_callV 7 (some mo) [.int a1, .int a2, .int a3, .int (2 : Int32)] 4 rfl mo_ob rfl rfl (ctX9_reads hl _ _ _ _ _ hq3) ⟨wl5 (i := 207) rfl rfl, ciX9_reads⟩ (wl5 (i := 209) rfl rfl) (wl0 (i := 43) rfl rfl) dX9_ladder_58 rfl rfl (Nat.le_of_ble_eq_true rfl) ⟨Nat.le_of_ble_eq_true rfl, Nat.le_of_ble_eq_true rfl⟩ ⟨Nat.le_of_ble_eq_true rfl, Nat.le_of_ble_eq_true rfl⟩ ?_
    refine aw_ifb_eq 68 dX9_ladder_61 (by decide) (fun c4 => ?_) (fun c4 => ?_)
    · rw [if_pos c4] at hf
      refine aw_iconst (0 : Int32) dX9_ladder_68 (by decide) ?_
      cases hf
      exact aw_zret dX9_ladder_69 rfl rfl rfl rfl ⟨Nat.le_of_ble_eq_true rfl, Nat.le_of_ble_eq_true rfl⟩
    · rw [if_neg c4] at hf
      refine aw_iconst (1 : Int32) dX9_ladder_64 (by decide) ?_
      refine aw_goto 69 dX9_ladder_65 (by decide) ?_
      cases hf
      exact aw_zret dX9_ladder_69 rfl rfl rfl rfl ⟨Nat.le_of_ble_eq_true rfl, Nat.le_of_ble_eq_true rfl⟩
def fX9_ladder_20 (S : MS) (a1 : Int32) (a2 : Int32) (a3 : Int32) (s0 : Int32) : Option (Bool × MS) :=
  (if s0 = 0 then fX9_ladder_47 S a1 a2 a3 (1 : Int32) else (fX9_isIn a3 (1 : Int32) (8 : Int32)).bind fun q2 => (if q2 = false then fX9_ladder_47 S a1 a2 a3 (2 : Int32) else fX9_ladder_47 S a1 a2 a3 (0 : Int32)))
set_option maxHeartbeats 4000000 in
set_option maxRecDepth 100000 in
theorem wkX9_ladder_20 {l : Launch} {g : xG} {x0 : xV} {mo sz : Nat} (hl : l.stackTraces = false) {r : Bool × MS} (S : MS) (a1 : Int32) (a2 : Int32) (a3 : Int32) (s0 : Int32) (hf : fX9_ladder_20 S a1 a2 a3 s0 = some r) : AW MX9_ladder rmX9_ladder l g x0 (.inl (some (.int (bi r.1)))) (moE g mo sz r.2) 0 0 (moE g mo sz S) 20 [(0, .ref mo), (1, .int a1), (2, .int a2), (3, .int a3)] [.int s0] := by
  rw [fX9_ladder_20] at hf
  refine aw_istore [(4, .int s0), (0, .ref mo), (1, .int a1), (2, .int a2), (3, .int a3)] dX9_ladder_20 (by decide) rfl ?_
  refine aw_aload_n 1 dX9_ladder_22 rfl ?_
  refine aw_iload 0 dX9_ladder_23 rfl ?_
  refine aw_if_ne 32 dX9_ladder_25 (by decide) (fun c1 => ?_) (fun c1 => ?_)
  · rw [if_neg c1] at hf
    refine aw_iload_n 4 dX9_ladder_32 rfl ?_
    refine aw_iconst (1 : Int32) dX9_ladder_33 (by decide) ?_
    refine aw_bipush (8 : Int32) dX9_ladder_34 (by decide) ?_
    obtain ⟨q2, hq2, hf⟩ := xbind hf
    refine aw_callS [.int a3, .int (1 : Int32), .int (8 : Int32)] 3 (ctX9_isIn hl _ _ _ hq2) ⟨wl5 (i := 13) rfl rfl, ciX9_isIn⟩ (wl5 (i := 14) rfl rfl) dX9_ladder_36 rfl rfl (Nat.le_of_ble_eq_true rfl) ⟨Nat.le_of_ble_eq_true rfl, Nat.le_of_ble_eq_true rfl⟩ ⟨Nat.le_of_ble_eq_true rfl, Nat.le_of_ble_eq_true rfl⟩ ?_
    refine aw_ifb_eq 46 dX9_ladder_39 (by decide) (fun c3 => ?_) (fun c3 => ?_)
    · rw [if_pos c3] at hf
      refine aw_iconst (2 : Int32) dX9_ladder_46 (by decide) ?_
      refine aw_lv [1, 2, 3, 4] rfl ?_
      exact wkX9_ladder_47 hl _ _ _ _ _ hf
    · rw [if_neg c3] at hf
      refine aw_iconst (0 : Int32) dX9_ladder_42 (by decide) ?_
      refine aw_goto 47 dX9_ladder_43 (by decide) ?_
      refine aw_lv [1, 2, 3, 4] rfl ?_
      exact wkX9_ladder_47 hl _ _ _ _ _ hf
  · rw [if_pos c1] at hf
    refine aw_iconst (1 : Int32) dX9_ladder_28 (by decide) ?_
    refine aw_goto 47 dX9_ladder_29 (by decide) ?_
    refine aw_lv [1, 2, 3, 4] rfl ?_
    exact wkX9_ladder_47 hl _ _ _ _ _ hf
def fX9_ladder (S : MS) (a1 : Int32) (a2 : Int32) (a3 : Int32) : Option (Bool × MS) :=
  (fX9_isGame S a1).bind fun q1 => (if q1 = false then fX9_ladder_20 S a1 a2 a3 (0 : Int32) else (fX9_isPoint a2).bind fun q3 => (if q3 = false then fX9_ladder_20 S a1 a2 a3 (0 : Int32) else fX9_ladder_20 S a1 a2 a3 (1 : Int32)))
set_option maxHeartbeats 4000000 in
set_option maxRecDepth 100000 in
theorem ctX9_ladder {l : Launch} {g : xG} {mo sz : Nat} (hl : l.stackTraces = false) {r : Bool × MS} (S : MS) (a1 : Int32) (a2 : Int32) (a3 : Int32) (hf : fX9_ladder S a1 a2 a3 = some r) : CT yX9_ladder MX9_ladder rmX9_ladder l g [.ref mo, .int a1, .int a2, .int a3] (moE g mo sz S) (.inl (some (.int (bi r.1)))) (moE g mo sz r.2) := by
  rw [fX9_ladder] at hf
  refine CT.of (lv0 := [(0, .ref mo), (1, .int a1), (2, .int a2), (3, .int a3)]) (by decide +kernel) rfl rfl (Nat.le_of_ble_eq_true rfl) rfl hl ?_
  refine aw_aload_n 0 dX9_ladder_0 rfl ?_
  refine aw_iload_n 1 dX9_ladder_1 rfl ?_
  obtain ⟨q1, hq1, hf⟩ := xbind hf
  refine aw_callV 7 (some mo) [.int a1] 1 rfl mo_ob rfl rfl (ctX9_isGame hl _ _ hq1) ⟨wl5 (i := 62) rfl rfl, ciX9_isGame⟩ (wl5 (i := 64) rfl rfl) (wl0 (i := 26) rfl rfl) dX9_ladder_2 rfl rfl (Nat.le_of_ble_eq_true rfl) ⟨Nat.le_of_ble_eq_true rfl, Nat.le_of_ble_eq_true rfl⟩ ⟨Nat.le_of_ble_eq_true rfl, Nat.le_of_ble_eq_true rfl⟩ ?_
  refine aw_ifb_eq 19 dX9_ladder_5 (by decide) (fun c2 => ?_) (fun c2 => ?_)
  · rw [if_pos c2] at hf
    refine aw_iconst (0 : Int32) dX9_ladder_19 (by decide) ?_
    refine aw_lv [0, 1, 2, 3] rfl ?_
    exact wkX9_ladder_20 hl _ _ _ _ _ hf
  · rw [if_neg c2] at hf
    refine aw_iload_n 2 dX9_ladder_8 rfl ?_
    obtain ⟨q3, hq3, hf⟩ := xbind hf
    refine aw_callS [.int a2] 1 (ctX9_isPoint hl _ hq3) ⟨wl5 (i := 66) rfl rfl, ciX9_isPoint⟩ (wl5 (i := 67) rfl rfl) dX9_ladder_9 rfl rfl (Nat.le_of_ble_eq_true rfl) ⟨Nat.le_of_ble_eq_true rfl, Nat.le_of_ble_eq_true rfl⟩ ⟨Nat.le_of_ble_eq_true rfl, Nat.le_of_ble_eq_true rfl⟩ ?_
    refine aw_ifb_eq 19 dX9_ladder_12 (by decide) (fun c4 => ?_) (fun c4 => ?_)
    · rw [if_pos c4] at hf
      refine aw_iconst (0 : Int32) dX9_ladder_19 (by decide) ?_
      refine aw_lv [0, 1, 2, 3] rfl ?_
      exact wkX9_ladder_20 hl _ _ _ _ _ hf
    · rw [if_neg c4] at hf
      refine aw_iconst (1 : Int32) dX9_ladder_15 (by decide) ?_
      refine aw_goto 20 dX9_ladder_16 (by decide) ?_
      refine aw_lv [0, 1, 2, 3] rfl ?_
      exact wkX9_ladder_20 hl _ _ _ _ _ hf
abbrev MX9_lesson : xM := (RX9, cX9_lesson, 6, (some .int), "lesson")
abbrev rmX9_lesson : Room := { frames := 2, cells := 0, slots := 0, locals := 43 }
theorem ciX9_lesson : Cond.code yX9_lesson cX9_lesson 6 (some .int) ∈ wt ∧ Cond.initialized yX9_lesson.cls ∈ wt ∧ (yX9_lesson.cls ≠ "java/lang/invoke/MethodHandle" ∧ yX9_lesson.cls ≠ "java/lang/invoke/VarHandle" ∧ (parseMethodDescriptor yX9_lesson.desc).map (fun d => d.parameters.length) = some 2) := ⟨wl6 (i := 1) rfl rfl, wl1 (i := 4) rfl rfl, by decide +kernel, by decide +kernel, by decide +kernel⟩
def fX9_lesson_47 (S : MS) (a1 : Int32) (a2 : Int32) (s1 : Int32) : Option (Int32 × MS) :=
  (fX9_fails S s1).bind fun q1 => (if q1.1 = false then (fX9_position q1.2 a1 a2).bind fun q3 => (if xin q3 4096 = true then (fX9_sideOf q1.2 a1 a2).bind fun q5 => (fX9_makes q1.2 (-1 : Int32) (-2 : Int32) (m_J q1.2 18 q3.toNatClampNeg) (m_J q1.2 19 q3.toNatClampNeg) q5).bind fun q6 => (if xin q6.1 60 = true then some (q6.1, (ms_I (ms_I q6.2 31 q6.1.toNatClampNeg a1) 32 q6.1.toNatClampNeg a2)) else none) else none) else some ((0 : Int32), q1.2))
set_option maxHeartbeats 4000000 in
set_option maxRecDepth 100000 in
theorem wkX9_lesson_47 {l : Launch} {g : xG} {x0 : xV} {mo sz : Nat} (hl : l.stackTraces = false) {r : Int32 × MS} (S : MS) (a1 : Int32) (a2 : Int32) (s1 : Int32) (hf : fX9_lesson_47 S a1 a2 s1 = some r) : AW MX9_lesson rmX9_lesson l g x0 (.inl (some (.int r.1))) (moE g mo sz r.2) 0 0 (moE g mo sz S) 47 [(0, .ref mo), (1, .int a1), (2, .int a2)] [.int s1, .ref mo] := by
  rw [fX9_lesson_47] at hf
  obtain ⟨q1, hq1, hf⟩ := xbind hf
  refine aw_callV 7 (some mo) [.int s1] 1 rfl mo_ob rfl rfl (ctX9_fails hl _ _ hq1) ⟨wl5 (i := 16) rfl rfl, ciX9_fails⟩ (wl5 (i := 18) rfl rfl) (wl0 (i := 19) rfl rfl) dX9_lesson_47 rfl rfl (Nat.le_of_ble_eq_true rfl) ⟨Nat.le_of_ble_eq_true rfl, Nat.le_of_ble_eq_true rfl⟩ ⟨Nat.le_of_ble_eq_true rfl, Nat.le_of_ble_eq_true rfl⟩ ?_
  refine aw_ifb_eq 55 dX9_lesson_50 (by decide) (fun c2 => ?_) (fun c2 => ?_)
  · rw [if_pos c2] at hf
    refine aw_aload_n 0 dX9_lesson_55 rfl ?_
    refine aw_iload_n 1 dX9_lesson_56 rfl ?_
    refine aw_iload_n 2 dX9_lesson_57 rfl ?_
    obtain ⟨q3, hq3, hf⟩ := xbind hf
    refine aw_callV 7 (some mo) [.int a1, .int a2] 2 rfl mo_ob rfl rfl (ctX9_position hl _ _ _ hq3) ⟨wl6 (i := 2) rfl rfl, ciX9_position⟩ (wl6 (i := 4) rfl rfl) (wl0 (i := 49) rfl rfl) dX9_lesson_58 rfl rfl (Nat.le_of_ble_eq_true rfl) ⟨Nat.le_of_ble_eq_true rfl, Nat.le_of_ble_eq_true rfl⟩ ⟨Nat.le_of_ble_eq_true rfl, Nat.le_of_ble_eq_true rfl⟩ ?_
    refine aw_istore [(4, .int q3), (0, .ref mo), (1, .int a1), (2, .int a2)] dX9_lesson_61 (by decide) rfl ?_
    refine aw_aload_n 1 dX9_lesson_63 rfl ?_
    refine aw_iconst (-1 : Int32) dX9_lesson_64 (by decide) ?_
    refine aw_bipush (-2 : Int32) dX9_lesson_65 (by decide) ?_
    refine aw_aload_n 1 dX9_lesson_67 rfl ?_
    refine mo_getR 22 18 rfl (by decide) (wl4 (i := 120) rfl rfl) dX9_lesson_68 ?_
    refine aw_iload 0 dX9_lesson_71 rfl ?_
    obtain ⟨hi4, hf⟩ := xifn hf
    refine mo_lald 18 4096 rfl (xin_v hi4) dX9_lesson_73 ?_
    refine aw_aload_n 1 dX9_lesson_74 rfl ?_
    refine mo_getR 23 19 rfl (by decide) (wl4 (i := 121) rfl rfl) dX9_lesson_75 ?_
    refine aw_iload 0 dX9_lesson_78 rfl ?_
    refine mo_lald 19 4096 rfl (xin_v hi4) dX9_lesson_80 ?_
    refine aw_aload_n 1 dX9_lesson_81 rfl ?_
    refine aw_iload_n 2 dX9_lesson_82 rfl ?_
    refine aw_iload_n 3 dX9_lesson_83 rfl ?_
    obtain ⟨q5, hq5, hf⟩ := xbind hf
    refine aw_callV 7 (some mo) [.int a1, .int a2] 2 rfl mo_ob rfl rfl (ctX9_sideOf hl _ _ _ hq5) ⟨wl5 (i := 77) rfl rfl, ciX9_sideOf⟩ (wl5 (i := 79) rfl rfl) (wl0 (i := 29) rfl rfl) dX9_lesson_84 rfl rfl (Nat.le_of_ble_eq_true rfl) ⟨Nat.le_of_ble_eq_true rfl, Nat.le_of_ble_eq_true rfl⟩ ⟨Nat.le_of_ble_eq_true rfl, Nat.le_of_ble_eq_true rfl⟩ ?_
    obtain ⟨q6, hq6, hf⟩ := xbind hf
    refine aw_callV 7 (some mo) [.int (-1 : Int32), .int (-2 : Int32), .long (m_J q1.2 18 q3.toNatClampNeg), .long (m_J q1.2 19 q3.toNatClampNeg), .int q5] 5 rfl mo_ob rfl rfl (ctX9_makes hl _ _ _ _ _ _ hq6) ⟨wl6 (i := 6) rfl rfl, ciX9_makes⟩ (wl6 (i := 8) rfl rfl) (wl0 (i := 50) rfl rfl) dX9_lesson_87 rfl rfl (Nat.le_of_ble_eq_true rfl) ⟨Nat.le_of_ble_eq_true rfl, Nat.le_of_ble_eq_true rfl⟩ ⟨Nat.le_of_ble_eq_true rfl, Nat.le_of_ble_eq_true rfl⟩ ?_
    refine aw_istore [(5, .int q6.1), (4, .int q3), (0, .ref mo), (1, .int a1), (2, .int a2)] dX9_lesson_90 (by decide) rfl ?_
    refine aw_aload_n 2 dX9_lesson_92 rfl ?_
    refine mo_getR 40 31 rfl (by decide) (wl4 (i := 138) rfl rfl) dX9_lesson_93 ?_
    refine aw_iload 0 dX9_lesson_96 rfl ?_
    refine aw_iload_n 3 dX9_lesson_98 rfl ?_
    obtain ⟨hi7, hf⟩ := xifn hf
    refine mo_iast 31 60 rfl (xin_v hi7) dX9_lesson_99 ?_
    refine aw_aload_n 2 dX9_lesson_100 rfl ?_
    refine mo_getR 41 32 rfl (by decide) (wl4 (i := 139) rfl rfl) dX9_lesson_101 ?_
    refine aw_iload 0 dX9_lesson_104 rfl ?_
    refine aw_iload_n 4 dX9_lesson_106 rfl ?_
    refine mo_iast 32 60 rfl (xin_v hi7) dX9_lesson_107 ?_
    refine aw_iload 0 dX9_lesson_108 rfl ?_
    cases hf
    exact aw_iret dX9_lesson_110 rfl rfl rfl ⟨Nat.le_of_ble_eq_true rfl, Nat.le_of_ble_eq_true rfl⟩
  · rw [if_neg c2] at hf
    refine aw_iconst (0 : Int32) dX9_lesson_53 (by decide) ?_
    cases hf
    exact aw_iret dX9_lesson_54 rfl rfl rfl ⟨Nat.le_of_ble_eq_true rfl, Nat.le_of_ble_eq_true rfl⟩
def fX9_lesson (S : MS) (a1 : Int32) (a2 : Int32) : Option (Int32 × MS) :=
  (fX9_isGame S a1).bind fun q1 => (if q1 = false then fX9_lesson_47 S a1 a2 (1 : Int32) else (if xin a1 16 = true then (fX9_isIn a2 (0 : Int32) (m_I S 12 a1.toNatClampNeg)).bind fun q4 => (if q4 = false then fX9_lesson_47 S a1 a2 (2 : Int32) else (if (m_i S 36) = (60 : Int32) then fX9_lesson_47 S a1 a2 (3 : Int32) else fX9_lesson_47 S a1 a2 (0 : Int32))) else none))
set_option maxHeartbeats 4000000 in
set_option maxRecDepth 100000 in
theorem ctX9_lesson {l : Launch} {g : xG} {mo sz : Nat} (hl : l.stackTraces = false) {r : Int32 × MS} (S : MS) (a1 : Int32) (a2 : Int32) (hf : fX9_lesson S a1 a2 = some r) : CT yX9_lesson MX9_lesson rmX9_lesson l g [.ref mo, .int a1, .int a2] (moE g mo sz S) (.inl (some (.int r.1))) (moE g mo sz r.2) := by
  rw [fX9_lesson] at hf
  refine CT.of (lv0 := [(0, .ref mo), (1, .int a1), (2, .int a2)]) (by decide +kernel) rfl rfl (Nat.le_of_ble_eq_true rfl) rfl hl ?_
  refine aw_aload_n 0 dX9_lesson_0 rfl ?_
  refine aw_iload_n 1 dX9_lesson_1 rfl ?_
  obtain ⟨q1, hq1, hf⟩ := xbind hf
  refine aw_callV 7 (some mo) [.int a1] 1 rfl mo_ob rfl rfl (ctX9_isGame hl _ _ hq1) ⟨wl5 (i := 62) rfl rfl, ciX9_isGame⟩ (wl5 (i := 64) rfl rfl) (wl0 (i := 26) rfl rfl) dX9_lesson_2 rfl rfl (Nat.le_of_ble_eq_true rfl) ⟨Nat.le_of_ble_eq_true rfl, Nat.le_of_ble_eq_true rfl⟩ ⟨Nat.le_of_ble_eq_true rfl, Nat.le_of_ble_eq_true rfl⟩ ?_
  refine aw_istore_n [(3, .int (bi q1)), (0, .ref mo), (1, .int a1), (2, .int a2)] dX9_lesson_5 rfl (by decide) rfl ?_
  refine aw_aload_n 1 dX9_lesson_6 rfl ?_
  refine aw_iload_n 0 dX9_lesson_7 rfl ?_
  refine aw_ifb_ne 15 dX9_lesson_8 (by decide) (fun c2 => ?_) (fun c2 => ?_)
  · rw [if_neg c2] at hf
    refine aw_iload_n 3 dX9_lesson_15 rfl ?_
    refine aw_iconst (0 : Int32) dX9_lesson_16 (by decide) ?_
    refine aw_aload_n 1 dX9_lesson_17 rfl ?_
    refine mo_getR 14 12 rfl (by decide) (wl4 (i := 112) rfl rfl) dX9_lesson_18 ?_
    refine aw_iload_n 2 dX9_lesson_21 rfl ?_
    obtain ⟨hi3, hf⟩ := xifn hf
    refine mo_iald 12 16 rfl (xin_v hi3) dX9_lesson_22 ?_
    obtain ⟨q4, hq4, hf⟩ := xbind hf
    refine aw_callS [.int a2, .int (0 : Int32), .int (m_I S 12 a1.toNatClampNeg)] 3 (ctX9_isIn hl _ _ _ hq4) ⟨wl5 (i := 13) rfl rfl, ciX9_isIn⟩ (wl5 (i := 14) rfl rfl) dX9_lesson_23 rfl rfl (Nat.le_of_ble_eq_true rfl) ⟨Nat.le_of_ble_eq_true rfl, Nat.le_of_ble_eq_true rfl⟩ ⟨Nat.le_of_ble_eq_true rfl, Nat.le_of_ble_eq_true rfl⟩ ?_
    refine aw_ifb_ne 33 dX9_lesson_26 (by decide) (fun c5 => ?_) (fun c5 => ?_)
    · rw [if_neg c5] at hf
      refine aw_aload_n 1 dX9_lesson_33 rfl ?_
      refine mo_getI 36 rfl (by decide) (wl4 (i := 134) rfl rfl) dX9_lesson_34 ?_
      refine aw_bipush (60 : Int32) dX9_lesson_37 (by decide) ?_
      refine aw_icmp_ne 46 dX9_lesson_39 (by decide) (fun c6 => ?_) (fun c6 => ?_)
      · rw [if_neg c6] at hf
        refine aw_iconst (0 : Int32) dX9_lesson_46 (by decide) ?_
        refine aw_lv [1, 2, 3] rfl ?_
        exact wkX9_lesson_47 hl _ _ _ _ hf
      · rw [if_pos c6] at hf
        refine aw_iconst (3 : Int32) dX9_lesson_42 (by decide) ?_
        refine aw_goto 47 dX9_lesson_43 (by decide) ?_
        refine aw_lv [1, 2, 3] rfl ?_
        exact wkX9_lesson_47 hl _ _ _ _ hf
    · rw [if_pos c5] at hf
      refine aw_iconst (2 : Int32) dX9_lesson_29 (by decide) ?_
      refine aw_goto 47 dX9_lesson_30 (by decide) ?_
      refine aw_lv [1, 2, 3] rfl ?_
      exact wkX9_lesson_47 hl _ _ _ _ hf
  · rw [if_pos c2] at hf
    refine aw_iconst (1 : Int32) dX9_lesson_11 (by decide) ?_
    refine aw_goto 47 dX9_lesson_12 (by decide) ?_
    refine aw_lv [1, 2, 3] rfl ?_
    exact wkX9_lesson_47 hl _ _ _ _ hf
abbrev MX9_liberties : xM := (RX9, cX9_liberties, 3, (some .int), "liberties")
abbrev rmX9_liberties : Room := { frames := 4, cells := 0, slots := 0, locals := 98 }
theorem ciX9_liberties : Cond.code yX9_liberties cX9_liberties 3 (some .int) ∈ wt ∧ Cond.initialized yX9_liberties.cls ∈ wt ∧ (yX9_liberties.cls ≠ "java/lang/invoke/MethodHandle" ∧ yX9_liberties.cls ≠ "java/lang/invoke/VarHandle" ∧ (parseMethodDescriptor yX9_liberties.desc).map (fun d => d.parameters.length) = some 2) := ⟨wl5 (i := 163) rfl rfl, wl1 (i := 4) rfl rfl, by decide +kernel, by decide +kernel, by decide +kernel⟩
def fX9_liberties (S : MS) (a1 : Int32) (a2 : Int32) : Option (Int32 × MS) :=
  (fX9_libertiesOf S a1 a2).bind fun q1 => some (q1.1, q1.2)
set_option maxHeartbeats 4000000 in
set_option maxRecDepth 100000 in
theorem ctX9_liberties {l : Launch} {g : xG} {mo sz : Nat} (hl : l.stackTraces = false) {r : Int32 × MS} (S : MS) (a1 : Int32) (a2 : Int32) (hf : fX9_liberties S a1 a2 = some r) : CT yX9_liberties MX9_liberties rmX9_liberties l g [.ref mo, .int a1, .int a2] (moE g mo sz S) (.inl (some (.int r.1))) (moE g mo sz r.2) := by
  rw [fX9_liberties] at hf
  refine CT.of (lv0 := [(0, .ref mo), (1, .int a1), (2, .int a2)]) (by decide +kernel) rfl rfl (Nat.le_of_ble_eq_true rfl) rfl hl ?_
  refine aw_aload_n 0 dX9_liberties_0 rfl ?_
  refine aw_iload_n 1 dX9_liberties_1 rfl ?_
  refine aw_iload_n 2 dX9_liberties_2 rfl ?_
  obtain ⟨q1, hq1, hf⟩ := xbind hf
  refine aw_callV 7 (some mo) [.int a1, .int a2] 2 rfl mo_ob rfl rfl (ctX9_libertiesOf hl _ _ _ hq1) ⟨wl5 (i := 164) rfl rfl, ciX9_libertiesOf⟩ (wl5 (i := 166) rfl rfl) (wl0 (i := 38) rfl rfl) dX9_liberties_3 rfl rfl (Nat.le_of_ble_eq_true rfl) ⟨Nat.le_of_ble_eq_true rfl, Nat.le_of_ble_eq_true rfl⟩ ⟨Nat.le_of_ble_eq_true rfl, Nat.le_of_ble_eq_true rfl⟩ ?_
  cases hf
  exact aw_iret dX9_liberties_6 rfl rfl rfl ⟨Nat.le_of_ble_eq_true rfl, Nat.le_of_ble_eq_true rfl⟩
abbrev MX9_mark : xM := (RX9, cX9_mark, 6, (some .int), "mark")
abbrev rmX9_mark : Room := { frames := 2, cells := 0, slots := 0, locals := 43 }
theorem ciX9_mark : Cond.code yX9_mark cX9_mark 6 (some .int) ∈ wt ∧ Cond.initialized yX9_mark.cls ∈ wt ∧ (yX9_mark.cls ≠ "java/lang/invoke/MethodHandle" ∧ yX9_mark.cls ≠ "java/lang/invoke/VarHandle" ∧ (parseMethodDescriptor yX9_mark.desc).map (fun d => d.parameters.length) = some 3) := ⟨wl6 (i := 29) rfl rfl, wl1 (i := 4) rfl rfl, by decide +kernel, by decide +kernel, by decide +kernel⟩
def fX9_mark_48 (S : MS) (a1 : Int32) (a2 : Int32) (a3 : Int32) (s1 : Int32) : Option (Int32 × MS) :=
  (fX9_fails S s1).bind fun q1 => (if q1.1 = false then (if xin (((4 : Int32) * a1) + a2) 240 = true then some ((m_I q1.2 36 (((4 : Int32) * a1) + a2).toNatClampNeg), (ms_I q1.2 36 (((4 : Int32) * a1) + a2).toNatClampNeg a3)) else none) else some ((0 : Int32), q1.2))
set_option maxHeartbeats 4000000 in
set_option maxRecDepth 100000 in
theorem wkX9_mark_48 {l : Launch} {g : xG} {x0 : xV} {mo sz : Nat} (hl : l.stackTraces = false) {r : Int32 × MS} (S : MS) (a1 : Int32) (a2 : Int32) (a3 : Int32) (s1 : Int32) (hf : fX9_mark_48 S a1 a2 a3 s1 = some r) : AW MX9_mark rmX9_mark l g x0 (.inl (some (.int r.1))) (moE g mo sz r.2) 0 0 (moE g mo sz S) 48 [(0, .ref mo), (1, .int a1), (2, .int a2), (3, .int a3)] [.int s1, .ref mo] := by
  rw [fX9_mark_48] at hf
  obtain ⟨q1, hq1, hf⟩ := xbind hf
  refine aw_callV 7 (some mo) [.int s1] 1 rfl mo_ob rfl rfl (ctX9_fails hl _ _ hq1) ⟨wl5 (i := 16) rfl rfl, ciX9_fails⟩ (wl5 (i := 18) rfl rfl) (wl0 (i := 19) rfl rfl) dX9_mark_48 rfl rfl (Nat.le_of_ble_eq_true rfl) ⟨Nat.le_of_ble_eq_true rfl, Nat.le_of_ble_eq_true rfl⟩ ⟨Nat.le_of_ble_eq_true rfl, Nat.le_of_ble_eq_true rfl⟩ ?_
  refine aw_ifb_eq 56 dX9_mark_51 (by decide) (fun c2 => ?_) (fun c2 => ?_)
  · rw [if_pos c2] at hf
    refine aw_aload_n 0 dX9_mark_56 rfl ?_
    refine mo_getR 45 36 rfl (by decide) (wl4 (i := 143) rfl rfl) dX9_mark_57 ?_
    refine aw_iconst (4 : Int32) dX9_mark_60 (by decide) ?_
    refine aw_iload_n 1 dX9_mark_61 rfl ?_
    refine aw_imul dX9_mark_62 ?_
    refine aw_iload_n 2 dX9_mark_63 rfl ?_
    refine aw_iadd dX9_mark_64 ?_
    obtain ⟨hi3, hf⟩ := xifn hf
    refine mo_iald 36 240 rfl (xin_v hi3) dX9_mark_65 ?_
    refine aw_istore [(5, .int (m_I q1.2 36 (((4 : Int32) * a1) + a2).toNatClampNeg)), (0, .ref mo), (1, .int a1), (2, .int a2), (3, .int a3)] dX9_mark_66 (by decide) rfl ?_
    refine aw_aload_n 1 dX9_mark_68 rfl ?_
    refine mo_getR 45 36 rfl (by decide) (wl4 (i := 143) rfl rfl) dX9_mark_69 ?_
    refine aw_iconst (4 : Int32) dX9_mark_72 (by decide) ?_
    refine aw_iload_n 2 dX9_mark_73 rfl ?_
    refine aw_imul dX9_mark_74 ?_
    refine aw_iload_n 3 dX9_mark_75 rfl ?_
    refine aw_iadd dX9_mark_76 ?_
    refine aw_iload_n 4 dX9_mark_77 rfl ?_
    refine mo_iast 36 240 rfl (xin_v hi3) dX9_mark_78 ?_
    refine aw_iload 0 dX9_mark_79 rfl ?_
    cases hf
    exact aw_iret dX9_mark_81 rfl rfl rfl ⟨Nat.le_of_ble_eq_true rfl, Nat.le_of_ble_eq_true rfl⟩
  · rw [if_neg c2] at hf
    refine aw_iconst (0 : Int32) dX9_mark_54 (by decide) ?_
    cases hf
    exact aw_iret dX9_mark_55 rfl rfl rfl ⟨Nat.le_of_ble_eq_true rfl, Nat.le_of_ble_eq_true rfl⟩
def fX9_mark_22 (S : MS) (a1 : Int32) (a2 : Int32) (a3 : Int32) (s0 : Int32) : Option (Int32 × MS) :=
  (if s0 = 0 then fX9_mark_48 S a1 a2 a3 (1 : Int32) else (fX9_isIn a3 (0 : Int32) (3 : Int32)).bind fun q2 => (if q2 = false then fX9_mark_48 S a1 a2 a3 (2 : Int32) else fX9_mark_48 S a1 a2 a3 (0 : Int32)))
set_option maxHeartbeats 4000000 in
set_option maxRecDepth 100000 in
theorem wkX9_mark_22 {l : Launch} {g : xG} {x0 : xV} {mo sz : Nat} (hl : l.stackTraces = false) {r : Int32 × MS} (S : MS) (a1 : Int32) (a2 : Int32) (a3 : Int32) (s0 : Int32) (hf : fX9_mark_22 S a1 a2 a3 s0 = some r) : AW MX9_mark rmX9_mark l g x0 (.inl (some (.int r.1))) (moE g mo sz r.2) 0 0 (moE g mo sz S) 22 [(0, .ref mo), (1, .int a1), (2, .int a2), (3, .int a3)] [.int s0] := by
  rw [fX9_mark_22] at hf
  refine aw_istore [(4, .int s0), (0, .ref mo), (1, .int a1), (2, .int a2), (3, .int a3)] dX9_mark_22 (by decide) rfl ?_
  refine aw_aload_n 1 dX9_mark_24 rfl ?_
  refine aw_iload 0 dX9_mark_25 rfl ?_
  refine aw_if_ne 34 dX9_mark_27 (by decide) (fun c1 => ?_) (fun c1 => ?_)
  · rw [if_neg c1] at hf
    refine aw_iload_n 4 dX9_mark_34 rfl ?_
    refine aw_iconst (0 : Int32) dX9_mark_35 (by decide) ?_
    refine aw_iconst (3 : Int32) dX9_mark_36 (by decide) ?_
    obtain ⟨q2, hq2, hf⟩ := xbind hf
    refine aw_callS [.int a3, .int (0 : Int32), .int (3 : Int32)] 3 (ctX9_isIn hl _ _ _ hq2) ⟨wl5 (i := 13) rfl rfl, ciX9_isIn⟩ (wl5 (i := 14) rfl rfl) dX9_mark_37 rfl rfl (Nat.le_of_ble_eq_true rfl) ⟨Nat.le_of_ble_eq_true rfl, Nat.le_of_ble_eq_true rfl⟩ ⟨Nat.le_of_ble_eq_true rfl, Nat.le_of_ble_eq_true rfl⟩ ?_
    refine aw_ifb_eq 47 dX9_mark_40 (by decide) (fun c3 => ?_) (fun c3 => ?_)
    · rw [if_pos c3] at hf
      refine aw_iconst (2 : Int32) dX9_mark_47 (by decide) ?_
      refine aw_lv [1, 2, 3, 4] rfl ?_
      exact wkX9_mark_48 hl _ _ _ _ _ hf
    · rw [if_neg c3] at hf
      refine aw_iconst (0 : Int32) dX9_mark_43 (by decide) ?_
      refine aw_goto 48 dX9_mark_44 (by decide) ?_
      refine aw_lv [1, 2, 3, 4] rfl ?_
      exact wkX9_mark_48 hl _ _ _ _ _ hf
  · rw [if_pos c1] at hf
    refine aw_iconst (1 : Int32) dX9_mark_30 (by decide) ?_
    refine aw_goto 48 dX9_mark_31 (by decide) ?_
    refine aw_lv [1, 2, 3, 4] rfl ?_
    exact wkX9_mark_48 hl _ _ _ _ _ hf
def fX9_mark (S : MS) (a1 : Int32) (a2 : Int32) (a3 : Int32) : Option (Int32 × MS) :=
  (fX9_isNode S a1).bind fun q1 => (if q1 = false then fX9_mark_22 S a1 a2 a3 (0 : Int32) else (fX9_isIn a2 (0 : Int32) (3 : Int32)).bind fun q3 => (if q3 = false then fX9_mark_22 S a1 a2 a3 (0 : Int32) else fX9_mark_22 S a1 a2 a3 (1 : Int32)))
set_option maxHeartbeats 4000000 in
set_option maxRecDepth 100000 in
theorem ctX9_mark {l : Launch} {g : xG} {mo sz : Nat} (hl : l.stackTraces = false) {r : Int32 × MS} (S : MS) (a1 : Int32) (a2 : Int32) (a3 : Int32) (hf : fX9_mark S a1 a2 a3 = some r) : CT yX9_mark MX9_mark rmX9_mark l g [.ref mo, .int a1, .int a2, .int a3] (moE g mo sz S) (.inl (some (.int r.1))) (moE g mo sz r.2) := by
  rw [fX9_mark] at hf
  refine CT.of (lv0 := [(0, .ref mo), (1, .int a1), (2, .int a2), (3, .int a3)]) (by decide +kernel) rfl rfl (Nat.le_of_ble_eq_true rfl) rfl hl ?_
  refine aw_aload_n 0 dX9_mark_0 rfl ?_
  refine aw_iload_n 1 dX9_mark_1 rfl ?_
  obtain ⟨q1, hq1, hf⟩ := xbind hf
  refine aw_callV 7 (some mo) [.int a1] 1 rfl mo_ob rfl rfl (ctX9_isNode hl _ _ hq1) ⟨wl6 (i := 14) rfl rfl, ciX9_isNode⟩ (wl6 (i := 16) rfl rfl) (wl0 (i := 51) rfl rfl) dX9_mark_2 rfl rfl (Nat.le_of_ble_eq_true rfl) ⟨Nat.le_of_ble_eq_true rfl, Nat.le_of_ble_eq_true rfl⟩ ⟨Nat.le_of_ble_eq_true rfl, Nat.le_of_ble_eq_true rfl⟩ ?_
  refine aw_ifb_eq 21 dX9_mark_5 (by decide) (fun c2 => ?_) (fun c2 => ?_)
  · rw [if_pos c2] at hf
    refine aw_iconst (0 : Int32) dX9_mark_21 (by decide) ?_
    refine aw_lv [0, 1, 2, 3] rfl ?_
    exact wkX9_mark_22 hl _ _ _ _ _ hf
  · rw [if_neg c2] at hf
    refine aw_iload_n 2 dX9_mark_8 rfl ?_
    refine aw_iconst (0 : Int32) dX9_mark_9 (by decide) ?_
    refine aw_iconst (3 : Int32) dX9_mark_10 (by decide) ?_
    obtain ⟨q3, hq3, hf⟩ := xbind hf
    refine aw_callS [.int a2, .int (0 : Int32), .int (3 : Int32)] 3 (ctX9_isIn hl _ _ _ hq3) ⟨wl5 (i := 13) rfl rfl, ciX9_isIn⟩ (wl5 (i := 14) rfl rfl) dX9_mark_11 rfl rfl (Nat.le_of_ble_eq_true rfl) ⟨Nat.le_of_ble_eq_true rfl, Nat.le_of_ble_eq_true rfl⟩ ⟨Nat.le_of_ble_eq_true rfl, Nat.le_of_ble_eq_true rfl⟩ ?_
    refine aw_ifb_eq 21 dX9_mark_14 (by decide) (fun c4 => ?_) (fun c4 => ?_)
    · rw [if_pos c4] at hf
      refine aw_iconst (0 : Int32) dX9_mark_21 (by decide) ?_
      refine aw_lv [0, 1, 2, 3] rfl ?_
      exact wkX9_mark_22 hl _ _ _ _ _ hf
    · rw [if_neg c4] at hf
      refine aw_iconst (1 : Int32) dX9_mark_17 (by decide) ?_
      refine aw_goto 22 dX9_mark_18 (by decide) ?_
      refine aw_lv [0, 1, 2, 3] rfl ?_
      exact wkX9_mark_22 hl _ _ _ _ _ hf
abbrev MX9_merge : xM := (RX9, cX9_merge, 9, (some .int), "merge")
abbrev rmX9_merge : Room := { frames := 2, cells := 0, slots := 0, locals := 49 }
theorem ciX9_merge : Cond.code yX9_merge cX9_merge 9 (some .int) ∈ wt ∧ Cond.initialized yX9_merge.cls ∈ wt ∧ (yX9_merge.cls ≠ "java/lang/invoke/MethodHandle" ∧ yX9_merge.cls ≠ "java/lang/invoke/VarHandle" ∧ (parseMethodDescriptor yX9_merge.desc).map (fun d => d.parameters.length) = some 2) := ⟨wl6 (i := 37) rfl rfl, wl1 (i := 4) rfl rfl, by decide +kernel, by decide +kernel, by decide +kernel⟩
def fX9_merge_288 (k140 : MS → Int32 → Int32 → Int32 → Option (Int32 × MS)) (S : MS) (a1 : Int32) (a5 : Int32) (a6 : Int32) : Option (Int32 × MS) :=
  k140 S a1 a5 (a6 + (1 : Int32))
set_option maxHeartbeats 4000000 in
set_option maxRecDepth 100000 in
theorem wkX9_merge_288 {l : Launch} {g : xG} {x0 : xV} {mo sz : Nat} (hl : l.stackTraces = false) {r : Int32 × MS} (k140 : MS → Int32 → Int32 → Int32 → Option (Int32 × MS)) (hk140 : ∀ (S : MS) (a1 : Int32) (a5 : Int32) (a6 : Int32), k140 S a1 a5 a6 = some r → AW MX9_merge rmX9_merge l g x0 (.inl (some (.int r.1))) (moE g mo sz r.2) 0 0 (moE g mo sz S) 140 [(0, .ref mo), (1, .int a1), (5, .int a5), (6, .int a6)] []) (S : MS) (a1 : Int32) (a5 : Int32) (a6 : Int32) (hf : fX9_merge_288 k140 S a1 a5 a6 = some r) : AW MX9_merge rmX9_merge l g x0 (.inl (some (.int r.1))) (moE g mo sz r.2) 0 0 (moE g mo sz S) 288 [(0, .ref mo), (1, .int a1), (5, .int a5), (6, .int a6)] [] := by
  rw [fX9_merge_288] at hf
  refine aw_iinc [(6, .int (a6 + (1 : Int32))), (0, .ref mo), (1, .int a1), (5, .int a5)] 3 dX9_merge_288 rfl rfl (by decide) rfl ?_
  refine aw_goto 140 dX9_merge_291 (by decide) ?_
  refine aw_lv [1, 2, 3, 0] rfl ?_
  exact hk140 _ _ _ _ hf
def fX9_merge_281 (k140 : MS → Int32 → Int32 → Int32 → Option (Int32 × MS)) (k223 : MS → Int32 → Int32 → Int32 → Int32 → Option (Int32 × MS)) (S : MS) (a1 : Int32) (a5 : Int32) (a6 : Int32) (a7 : Int32) (s1 : Int32) (s2 : Int32) : Option (Int32 × MS) :=
  (if xin s1 240 = true then k223 (ms_I S 36 s1.toNatClampNeg s2) a1 a5 a6 (a7 + (1 : Int32)) else none)
set_option maxHeartbeats 4000000 in
set_option maxRecDepth 100000 in
theorem wkX9_merge_281 {l : Launch} {g : xG} {x0 : xV} {mo sz : Nat} (hl : l.stackTraces = false) {r : Int32 × MS} (k140 : MS → Int32 → Int32 → Int32 → Option (Int32 × MS)) (k223 : MS → Int32 → Int32 → Int32 → Int32 → Option (Int32 × MS)) (hk140 : ∀ (S : MS) (a1 : Int32) (a5 : Int32) (a6 : Int32), k140 S a1 a5 a6 = some r → AW MX9_merge rmX9_merge l g x0 (.inl (some (.int r.1))) (moE g mo sz r.2) 0 0 (moE g mo sz S) 140 [(0, .ref mo), (1, .int a1), (5, .int a5), (6, .int a6)] []) (hk223 : ∀ (S : MS) (a1 : Int32) (a5 : Int32) (a6 : Int32) (a7 : Int32), k223 S a1 a5 a6 a7 = some r → AW MX9_merge rmX9_merge l g x0 (.inl (some (.int r.1))) (moE g mo sz r.2) 0 0 (moE g mo sz S) 223 [(0, .ref mo), (1, .int a1), (5, .int a5), (6, .int a6), (7, .int a7)] []) (S : MS) (a1 : Int32) (a5 : Int32) (a6 : Int32) (a7 : Int32) (s1 : Int32) (s2 : Int32) (hf : fX9_merge_281 k140 k223 S a1 a5 a6 a7 s1 s2 = some r) : AW MX9_merge rmX9_merge l g x0 (.inl (some (.int r.1))) (moE g mo sz r.2) 0 0 (moE g mo sz S) 281 [(0, .ref mo), (1, .int a1), (5, .int a5), (6, .int a6), (7, .int a7)] [.int s2, .int s1, .ref (mo + 1 + 36)] := by
  rw [fX9_merge_281] at hf
  obtain ⟨hi1, hf⟩ := xifn hf
  refine mo_iast 36 240 rfl (xin_v hi1) dX9_merge_281 ?_
  refine aw_iinc [(7, .int (a7 + (1 : Int32))), (0, .ref mo), (1, .int a1), (5, .int a5), (6, .int a6)] 4 dX9_merge_282 rfl rfl (by decide) rfl ?_
  refine aw_goto 223 dX9_merge_285 (by decide) ?_
  refine aw_lv [1, 2, 3, 4, 0] rfl ?_
  exact hk223 _ _ _ _ _ hf
def fX9_merge_223 (k140 : MS → Int32 → Int32 → Int32 → Option (Int32 × MS)) : Nat → MS → Int32 → Int32 → Int32 → Int32 → Option (Int32 × MS)
  | 0, _, _, _, _, _ => none
  | n + 1, S, a1, a5, a6, a7 =>
    (if (4 : Int32) ≤ a7 then fX9_merge_288 k140 S a1 a5 a6 else (if xin a6 60 = true then (if xin (((4 : Int32) * (m_I S 37 a6.toNatClampNeg)) + a7) 240 = true then (if (m_I S 36 (((4 : Int32) * (m_I S 37 a6.toNatClampNeg)) + a7).toNatClampNeg) = 0 then (if xin (((4 : Int32) * a6) + a7) 240 = true then fX9_merge_281 k140 (fX9_merge_223 k140 n) S a1 a5 a6 a7 (((4 : Int32) * (m_I S 37 a6.toNatClampNeg)) + a7) (m_I S 36 (((4 : Int32) * a6) + a7).toNatClampNeg) else none) else fX9_merge_281 k140 (fX9_merge_223 k140 n) S a1 a5 a6 a7 (((4 : Int32) * (m_I S 37 a6.toNatClampNeg)) + a7) (m_I S 36 (((4 : Int32) * (m_I S 37 a6.toNatClampNeg)) + a7).toNatClampNeg)) else none) else none))
set_option maxHeartbeats 4000000 in
set_option maxRecDepth 100000 in
theorem wkX9_merge_223 {l : Launch} {g : xG} {x0 : xV} {mo sz : Nat} (hl : l.stackTraces = false) {r : Int32 × MS} (k140 : MS → Int32 → Int32 → Int32 → Option (Int32 × MS)) (hk140 : ∀ (S : MS) (a1 : Int32) (a5 : Int32) (a6 : Int32), k140 S a1 a5 a6 = some r → AW MX9_merge rmX9_merge l g x0 (.inl (some (.int r.1))) (moE g mo sz r.2) 0 0 (moE g mo sz S) 140 [(0, .ref mo), (1, .int a1), (5, .int a5), (6, .int a6)] []) : ∀ (n : Nat) (S : MS) (a1 : Int32) (a5 : Int32) (a6 : Int32) (a7 : Int32), fX9_merge_223 k140 n S a1 a5 a6 a7 = some r → AW MX9_merge rmX9_merge l g x0 (.inl (some (.int r.1))) (moE g mo sz r.2) 0 0 (moE g mo sz S) 223 [(0, .ref mo), (1, .int a1), (5, .int a5), (6, .int a6), (7, .int a7)] [] := by
  intro n
  induction n with
  | zero => intro S a1 a5 a6 a7 hf; exact absurd hf (by simp [fX9_merge_223])
  | succ n hk223 =>
    intro S a1 a5 a6 a7 hf
    rw [fX9_merge_223] at hf
    refine aw_iload 4 dX9_merge_223 rfl ?_
    refine aw_iconst (4 : Int32) dX9_merge_225 (by decide) ?_
    refine aw_icmp_ge 288 dX9_merge_226 (by decide) (fun c1 => ?_) (fun c1 => ?_)
    · rw [if_pos c1] at hf
      refine aw_lv [0, 1, 2, 3] rfl ?_
      exact wkX9_merge_288 hl _ hk140 _ _ _ _ hf
    · rw [if_neg c1] at hf
      refine aw_iconst (4 : Int32) dX9_merge_229 (by decide) ?_
      refine aw_aload_n 0 dX9_merge_230 rfl ?_
      refine mo_getR 46 37 rfl (by decide) (wl4 (i := 144) rfl rfl) dX9_merge_231 ?_
      refine aw_iload 3 dX9_merge_234 rfl ?_
      obtain ⟨hi2, hf⟩ := xifn hf
      refine mo_iald 37 60 rfl (xin_v hi2) dX9_merge_236 ?_
      refine aw_imul dX9_merge_237 ?_
      refine aw_iload 4 dX9_merge_238 rfl ?_
      refine aw_iadd dX9_merge_240 ?_
      refine aw_istore [(8, .int (((4 : Int32) * (m_I S 37 a6.toNatClampNeg)) + a7)), (0, .ref mo), (1, .int a1), (5, .int a5), (6, .int a6), (7, .int a7)] dX9_merge_241 (by decide) rfl ?_
      refine aw_aload_n 1 dX9_merge_243 rfl ?_
      refine mo_getR 45 36 rfl (by decide) (wl4 (i := 143) rfl rfl) dX9_merge_244 ?_
      refine aw_iload 0 dX9_merge_247 rfl ?_
      refine aw_aload_n 1 dX9_merge_249 rfl ?_
      refine mo_getR 45 36 rfl (by decide) (wl4 (i := 143) rfl rfl) dX9_merge_250 ?_
      refine aw_iload 0 dX9_merge_253 rfl ?_
      obtain ⟨hi3, hf⟩ := xifn hf
      refine mo_iald 36 240 rfl (xin_v hi3) dX9_merge_255 ?_
      refine aw_if_ne 274 dX9_merge_256 (by decide) (fun c4 => ?_) (fun c4 => ?_)
      · rw [if_neg c4] at hf
        refine aw_aload_n 1 dX9_merge_274 rfl ?_
        refine mo_getR 45 36 rfl (by decide) (wl4 (i := 143) rfl rfl) dX9_merge_275 ?_
        refine aw_iload 0 dX9_merge_278 rfl ?_
        refine mo_iald 36 240 rfl (xin_v hi3) dX9_merge_280 ?_
        refine aw_lv [1, 2, 3, 4, 5] rfl ?_
        exact wkX9_merge_281 hl _ _ hk140 hk223 _ _ _ _ _ _ _ hf
      · rw [if_pos c4] at hf
        refine aw_aload_n 1 dX9_merge_259 rfl ?_
        refine mo_getR 45 36 rfl (by decide) (wl4 (i := 143) rfl rfl) dX9_merge_260 ?_
        refine aw_iconst (4 : Int32) dX9_merge_263 (by decide) ?_
        refine aw_iload 4 dX9_merge_264 rfl ?_
        refine aw_imul dX9_merge_266 ?_
        refine aw_iload 5 dX9_merge_267 rfl ?_
        refine aw_iadd dX9_merge_269 ?_
        obtain ⟨hi5, hf⟩ := xifn hf
        refine mo_iald 36 240 rfl (xin_v hi5) dX9_merge_270 ?_
        refine aw_goto 281 dX9_merge_271 (by decide) ?_
        refine aw_lv [1, 2, 3, 4, 5] rfl ?_
        exact wkX9_merge_281 hl _ _ hk140 hk223 _ _ _ _ _ _ _ hf
def fX9_merge_220 (k140 : MS → Int32 → Int32 → Int32 → Option (Int32 × MS)) (S : MS) (a1 : Int32) (a5 : Int32) (a6 : Int32) : Option (Int32 × MS) :=
  fX9_merge_223 k140 FU S a1 a5 a6 (0 : Int32)
set_option maxHeartbeats 4000000 in
set_option maxRecDepth 100000 in
theorem wkX9_merge_220 {l : Launch} {g : xG} {x0 : xV} {mo sz : Nat} (hl : l.stackTraces = false) {r : Int32 × MS} (k140 : MS → Int32 → Int32 → Int32 → Option (Int32 × MS)) (hk140 : ∀ (S : MS) (a1 : Int32) (a5 : Int32) (a6 : Int32), k140 S a1 a5 a6 = some r → AW MX9_merge rmX9_merge l g x0 (.inl (some (.int r.1))) (moE g mo sz r.2) 0 0 (moE g mo sz S) 140 [(0, .ref mo), (1, .int a1), (5, .int a5), (6, .int a6)] []) (S : MS) (a1 : Int32) (a5 : Int32) (a6 : Int32) (hf : fX9_merge_220 k140 S a1 a5 a6 = some r) : AW MX9_merge rmX9_merge l g x0 (.inl (some (.int r.1))) (moE g mo sz r.2) 0 0 (moE g mo sz S) 220 [(0, .ref mo), (1, .int a1), (5, .int a5), (6, .int a6)] [] := by
  rw [fX9_merge_220] at hf
  refine aw_iconst (0 : Int32) dX9_merge_220 (by decide) ?_
  refine aw_istore [(7, .int (0 : Int32)), (0, .ref mo), (1, .int a1), (5, .int a5), (6, .int a6)] dX9_merge_221 (by decide) rfl ?_
  refine aw_lv [1, 2, 3, 4, 0] rfl ?_
  exact wkX9_merge_223 hl _ hk140 _ _ _ _ _ _ hf
def fX9_merge_140 : Nat → MS → Int32 → Int32 → Int32 → Option (Int32 × MS)
  | 0, _, _, _, _ => none
  | n + 1, S, a1, a5, a6 =>
    (if a5 ≤ a6 then some (((m_i S 36) - a5), S) else (if xin a6 60 = true then (if (m_I S 29 a6.toNatClampNeg) = a1 then (if (m_I S 37 a6.toNatClampNeg) = (-1 : Int32) then (if xin (m_I S 28 a6.toNatClampNeg) 60 = true then (fX9_makes S (m_I S 37 (m_I S 28 a6.toNatClampNeg).toNatClampNeg) (m_I S 30 a6.toNatClampNeg) (m_J S 34 a6.toNatClampNeg) (m_J S 35 a6.toNatClampNeg) (m_I S 33 a6.toNatClampNeg)).bind fun q6 => fX9_merge_220 (fX9_merge_140 n) (ms_I q6.2 37 a6.toNatClampNeg q6.1) a1 a5 a6 else none) else fX9_merge_220 (fX9_merge_140 n) S a1 a5 a6) else fX9_merge_288 (fX9_merge_140 n) S a1 a5 a6) else none))
set_option maxHeartbeats 4000000 in
set_option maxRecDepth 100000 in
theorem wkX9_merge_140 {l : Launch} {g : xG} {x0 : xV} {mo sz : Nat} (hl : l.stackTraces = false) {r : Int32 × MS} : ∀ (n : Nat) (S : MS) (a1 : Int32) (a5 : Int32) (a6 : Int32), fX9_merge_140 n S a1 a5 a6 = some r → AW MX9_merge rmX9_merge l g x0 (.inl (some (.int r.1))) (moE g mo sz r.2) 0 0 (moE g mo sz S) 140 [(0, .ref mo), (1, .int a1), (5, .int a5), (6, .int a6)] [] := by
  intro n
  induction n with
  | zero => intro S a1 a5 a6 hf; exact absurd hf (by simp [fX9_merge_140])
  | succ n hk140 =>
    intro S a1 a5 a6 hf
    rw [fX9_merge_140] at hf
    refine aw_iload 3 dX9_merge_140 rfl ?_
    refine aw_iload 2 dX9_merge_142 rfl ?_
    refine aw_icmp_ge 294 dX9_merge_144 (by decide) (fun c1 => ?_) (fun c1 => ?_)
    · rw [if_pos c1] at hf
      refine aw_aload_n 0 dX9_merge_294 rfl ?_
      refine mo_getI 36 rfl (by decide) (wl4 (i := 134) rfl rfl) dX9_merge_295 ?_
      refine aw_iload 2 dX9_merge_298 rfl ?_
      refine aw_isub dX9_merge_300 ?_
      cases hf
      exact aw_iret dX9_merge_301 rfl rfl rfl ⟨Nat.le_of_ble_eq_true rfl, Nat.le_of_ble_eq_true rfl⟩
    · rw [if_neg c1] at hf
      refine aw_aload_n 0 dX9_merge_147 rfl ?_
      refine mo_getR 38 29 rfl (by decide) (wl4 (i := 136) rfl rfl) dX9_merge_148 ?_
      refine aw_iload 3 dX9_merge_151 rfl ?_
      obtain ⟨hi2, hf⟩ := xifn hf
      refine mo_iald 29 60 rfl (xin_v hi2) dX9_merge_153 ?_
      refine aw_iload_n 1 dX9_merge_154 rfl ?_
      refine aw_icmp_ne 288 dX9_merge_155 (by decide) (fun c3 => ?_) (fun c3 => ?_)
      · rw [if_neg c3] at hf
        refine aw_lv [0, 1, 2, 3] rfl ?_
        exact wkX9_merge_288 hl _ hk140 _ _ _ _ hf
      · rw [if_pos c3] at hf
        refine aw_aload_n 0 dX9_merge_158 rfl ?_
        refine mo_getR 46 37 rfl (by decide) (wl4 (i := 144) rfl rfl) dX9_merge_159 ?_
        refine aw_iload 3 dX9_merge_162 rfl ?_
        refine mo_iald 37 60 rfl (xin_v hi2) dX9_merge_164 ?_
        refine aw_iconst (-1 : Int32) dX9_merge_165 (by decide) ?_
        refine aw_icmp_ne 220 dX9_merge_166 (by decide) (fun c4 => ?_) (fun c4 => ?_)
        · rw [if_neg c4] at hf
          refine aw_lv [0, 1, 2, 3] rfl ?_
          exact wkX9_merge_220 hl _ hk140 _ _ _ _ hf
        · rw [if_pos c4] at hf
          refine aw_aload_n 0 dX9_merge_169 rfl ?_
          refine mo_getR 46 37 rfl (by decide) (wl4 (i := 144) rfl rfl) dX9_merge_170 ?_
          refine aw_iload 3 dX9_merge_173 rfl ?_
          refine aw_aload_n 0 dX9_merge_175 rfl ?_
          refine aw_aload_n 0 dX9_merge_176 rfl ?_
          refine mo_getR 46 37 rfl (by decide) (wl4 (i := 144) rfl rfl) dX9_merge_177 ?_
          refine aw_aload_n 0 dX9_merge_180 rfl ?_
          refine mo_getR 37 28 rfl (by decide) (wl4 (i := 135) rfl rfl) dX9_merge_181 ?_
          refine aw_iload 3 dX9_merge_184 rfl ?_
          refine mo_iald 28 60 rfl (xin_v hi2) dX9_merge_186 ?_
          obtain ⟨hi5, hf⟩ := xifn hf
          refine mo_iald 37 60 rfl (xin_v hi5) dX9_merge_187 ?_
          refine aw_aload_n 0 dX9_merge_188 rfl ?_
          refine mo_getR 39 30 rfl (by decide) (wl4 (i := 137) rfl rfl) dX9_merge_189 ?_
          refine aw_iload 3 dX9_merge_192 rfl ?_
          refine mo_iald 30 60 rfl (xin_v hi2) dX9_merge_194 ?_
          refine aw_aload_n 0 dX9_merge_195 rfl ?_
          refine mo_getR 43 34 rfl (by decide) (wl4 (i := 141) rfl rfl) dX9_merge_196 ?_
          refine aw_iload 3 dX9_merge_199 rfl ?_
          refine mo_lald 34 60 rfl (xin_v hi2) dX9_merge_201 ?_
          refine aw_aload_n 0 dX9_merge_202 rfl ?_
          refine mo_getR 44 35 rfl (by decide) (wl4 (i := 142) rfl rfl) dX9_merge_203 ?_
          refine aw_iload 3 dX9_merge_206 rfl ?_
          refine mo_lald 35 60 rfl (xin_v hi2) dX9_merge_208 ?_
          refine aw_aload_n 0 dX9_merge_209 rfl ?_
          refine mo_getR 42 33 rfl (by decide) (wl4 (i := 140) rfl rfl) dX9_merge_210 ?_
          refine aw_iload 3 dX9_merge_213 rfl ?_
          refine mo_iald 33 60 rfl (xin_v hi2) dX9_merge_215 ?_
          obtain ⟨q6, hq6, hf⟩ := xbind hf
          refine aw_callV 7 (some mo) [.int (m_I S 37 (m_I S 28 a6.toNatClampNeg).toNatClampNeg), .int (m_I S 30 a6.toNatClampNeg), .long (m_J S 34 a6.toNatClampNeg), .long (m_J S 35 a6.toNatClampNeg), .int (m_I S 33 a6.toNatClampNeg)] 5 rfl mo_ob rfl rfl (ctX9_makes hl _ _ _ _ _ _ hq6) ⟨wl6 (i := 6) rfl rfl, ciX9_makes⟩ (wl6 (i := 8) rfl rfl) (wl0 (i := 50) rfl rfl) dX9_merge_216 rfl rfl (Nat.le_of_ble_eq_true rfl) ⟨Nat.le_of_ble_eq_true rfl, Nat.le_of_ble_eq_true rfl⟩ ⟨Nat.le_of_ble_eq_true rfl, Nat.le_of_ble_eq_true rfl⟩ ?_
          refine mo_iast 37 60 rfl (xin_v hi2) dX9_merge_219 ?_
          refine aw_lv [0, 1, 2, 3] rfl ?_
          exact wkX9_merge_220 hl _ hk140 _ _ _ _ hf
def fX9_merge_123 (S : MS) (a1 : Int32) (s1 : Int32) : Option (Int32 × MS) :=
  (fX9_fails S s1).bind fun q1 => (if q1.1 = false then fX9_merge_140 FU q1.2 a1 (m_i q1.2 36) (0 : Int32) else some ((0 : Int32), q1.2))
set_option maxHeartbeats 4000000 in
set_option maxRecDepth 100000 in
theorem wkX9_merge_123 {l : Launch} {g : xG} {x0 : xV} {mo sz : Nat} (hl : l.stackTraces = false) {r : Int32 × MS} (S : MS) (a1 : Int32) (s1 : Int32) (hf : fX9_merge_123 S a1 s1 = some r) : AW MX9_merge rmX9_merge l g x0 (.inl (some (.int r.1))) (moE g mo sz r.2) 0 0 (moE g mo sz S) 123 [(0, .ref mo), (1, .int a1)] [.int s1, .ref mo] := by
  rw [fX9_merge_123] at hf
  obtain ⟨q1, hq1, hf⟩ := xbind hf
  refine aw_callV 7 (some mo) [.int s1] 1 rfl mo_ob rfl rfl (ctX9_fails hl _ _ hq1) ⟨wl5 (i := 16) rfl rfl, ciX9_fails⟩ (wl5 (i := 18) rfl rfl) (wl0 (i := 19) rfl rfl) dX9_merge_123 rfl rfl (Nat.le_of_ble_eq_true rfl) ⟨Nat.le_of_ble_eq_true rfl, Nat.le_of_ble_eq_true rfl⟩ ⟨Nat.le_of_ble_eq_true rfl, Nat.le_of_ble_eq_true rfl⟩ ?_
  refine aw_ifb_eq 131 dX9_merge_126 (by decide) (fun c2 => ?_) (fun c2 => ?_)
  · rw [if_pos c2] at hf
    refine aw_aload_n 0 dX9_merge_131 rfl ?_
    refine mo_getI 36 rfl (by decide) (wl4 (i := 134) rfl rfl) dX9_merge_132 ?_
    refine aw_istore [(5, .int (m_i q1.2 36)), (0, .ref mo), (1, .int a1)] dX9_merge_135 (by decide) rfl ?_
    refine aw_iconst (0 : Int32) dX9_merge_137 (by decide) ?_
    refine aw_istore [(6, .int (0 : Int32)), (5, .int (m_i q1.2 36)), (0, .ref mo), (1, .int a1)] dX9_merge_138 (by decide) rfl ?_
    refine aw_lv [2, 3, 1, 0] rfl ?_
    exact wkX9_merge_140 hl _ _ _ _ _ hf
  · rw [if_neg c2] at hf
    refine aw_iconst (0 : Int32) dX9_merge_129 (by decide) ?_
    cases hf
    exact aw_iret dX9_merge_130 rfl rfl rfl ⟨Nat.le_of_ble_eq_true rfl, Nat.le_of_ble_eq_true rfl⟩
def fX9_merge_82 (S : MS) (a1 : Int32) (a2 : Int32) (a3 : Int32) (s0 : Int32) : Option (Int32 × MS) :=
  (if a3 = 0 then fX9_merge_123 S a1 (1 : Int32) else (if s0 = 0 then fX9_merge_123 S a1 (2 : Int32) else (fX9_lacks S a1 a2).bind fun q3 => (if ((m_i S 36) + q3.1) ≤ (60 : Int32) then fX9_merge_123 q3.2 a1 (0 : Int32) else fX9_merge_123 q3.2 a1 (3 : Int32))))
set_option maxHeartbeats 4000000 in
set_option maxRecDepth 100000 in
theorem wkX9_merge_82 {l : Launch} {g : xG} {x0 : xV} {mo sz : Nat} (hl : l.stackTraces = false) {r : Int32 × MS} (S : MS) (a1 : Int32) (a2 : Int32) (a3 : Int32) (s0 : Int32) (hf : fX9_merge_82 S a1 a2 a3 s0 = some r) : AW MX9_merge rmX9_merge l g x0 (.inl (some (.int r.1))) (moE g mo sz r.2) 0 0 (moE g mo sz S) 82 [(0, .ref mo), (1, .int a1), (2, .int a2), (3, .int a3)] [.int s0] := by
  rw [fX9_merge_82] at hf
  refine aw_istore [(4, .int s0), (0, .ref mo), (1, .int a1), (2, .int a2), (3, .int a3)] dX9_merge_82 (by decide) rfl ?_
  refine aw_aload_n 1 dX9_merge_84 rfl ?_
  refine aw_iload_n 4 dX9_merge_85 rfl ?_
  refine aw_if_ne 93 dX9_merge_86 (by decide) (fun c1 => ?_) (fun c1 => ?_)
  · rw [if_neg c1] at hf
    refine aw_iload 0 dX9_merge_93 rfl ?_
    refine aw_if_ne 102 dX9_merge_95 (by decide) (fun c2 => ?_) (fun c2 => ?_)
    · rw [if_neg c2] at hf
      refine aw_aload_n 1 dX9_merge_102 rfl ?_
      refine mo_getI 36 rfl (by decide) (wl4 (i := 134) rfl rfl) dX9_merge_103 ?_
      refine aw_aload_n 1 dX9_merge_106 rfl ?_
      refine aw_iload_n 2 dX9_merge_107 rfl ?_
      refine aw_iload_n 3 dX9_merge_108 rfl ?_
      obtain ⟨q3, hq3, hf⟩ := xbind hf
      refine aw_callV 7 (some mo) [.int a1, .int a2] 2 rfl mo_ob rfl rfl (ctX9_lacks hl _ _ _ hq3) ⟨wl6 (i := 42) rfl rfl, ciX9_lacks⟩ (wl6 (i := 44) rfl rfl) (wl0 (i := 55) rfl rfl) dX9_merge_109 rfl rfl (Nat.le_of_ble_eq_true rfl) ⟨Nat.le_of_ble_eq_true rfl, Nat.le_of_ble_eq_true rfl⟩ ⟨Nat.le_of_ble_eq_true rfl, Nat.le_of_ble_eq_true rfl⟩ ?_
      refine aw_iadd dX9_merge_112 ?_
      refine aw_bipush (60 : Int32) dX9_merge_113 (by decide) ?_
      refine aw_icmp_le 122 dX9_merge_115 (by decide) (fun c4 => ?_) (fun c4 => ?_)
      · rw [if_pos c4] at hf
        refine aw_iconst (0 : Int32) dX9_merge_122 (by decide) ?_
        refine aw_lv [1, 2] rfl ?_
        exact wkX9_merge_123 hl _ _ _ hf
      · rw [if_neg c4] at hf
        refine aw_iconst (3 : Int32) dX9_merge_118 (by decide) ?_
        refine aw_goto 123 dX9_merge_119 (by decide) ?_
        refine aw_lv [1, 2] rfl ?_
        exact wkX9_merge_123 hl _ _ _ hf
    · rw [if_pos c2] at hf
      refine aw_iconst (2 : Int32) dX9_merge_98 (by decide) ?_
      refine aw_goto 123 dX9_merge_99 (by decide) ?_
      refine aw_lv [1, 2] rfl ?_
      exact wkX9_merge_123 hl _ _ _ hf
  · rw [if_pos c1] at hf
    refine aw_iconst (1 : Int32) dX9_merge_89 (by decide) ?_
    refine aw_goto 123 dX9_merge_90 (by decide) ?_
    refine aw_lv [1, 2] rfl ?_
    exact wkX9_merge_123 hl _ _ _ hf
def fX9_merge_21 (S : MS) (a1 : Int32) (a2 : Int32) (s0 : Int32) : Option (Int32 × MS) :=
  (if s0 = 0 then fX9_merge_82 S a1 a2 s0 (0 : Int32) else (if a1 = a2 then fX9_merge_82 S a1 a2 s0 (0 : Int32) else (fX9_isRoot S a1).bind fun q3 => (if q3 = false then fX9_merge_82 S a1 a2 s0 (0 : Int32) else (fX9_isRoot S a2).bind fun q5 => (if q5 = false then fX9_merge_82 S a1 a2 s0 (0 : Int32) else (if xin a1 60 = true then (if xin a2 60 = true then (if (m_I S 31 a1.toNatClampNeg) = (m_I S 31 a2.toNatClampNeg) then (if (m_I S 32 a1.toNatClampNeg) = (m_I S 32 a2.toNatClampNeg) then fX9_merge_82 S a1 a2 s0 (1 : Int32) else fX9_merge_82 S a1 a2 s0 (0 : Int32)) else fX9_merge_82 S a1 a2 s0 (0 : Int32)) else none) else none)))))
set_option maxHeartbeats 4000000 in
set_option maxRecDepth 100000 in
theorem wkX9_merge_21 {l : Launch} {g : xG} {x0 : xV} {mo sz : Nat} (hl : l.stackTraces = false) {r : Int32 × MS} (S : MS) (a1 : Int32) (a2 : Int32) (s0 : Int32) (hf : fX9_merge_21 S a1 a2 s0 = some r) : AW MX9_merge rmX9_merge l g x0 (.inl (some (.int r.1))) (moE g mo sz r.2) 0 0 (moE g mo sz S) 21 [(0, .ref mo), (1, .int a1), (2, .int a2)] [.int s0] := by
  rw [fX9_merge_21] at hf
  refine aw_istore_n [(3, .int s0), (0, .ref mo), (1, .int a1), (2, .int a2)] dX9_merge_21 rfl (by decide) rfl ?_
  refine aw_iload_n 0 dX9_merge_22 rfl ?_
  refine aw_if_eq 81 dX9_merge_23 (by decide) (fun c1 => ?_) (fun c1 => ?_)
  · rw [if_pos c1] at hf
    refine aw_iconst (0 : Int32) dX9_merge_81 (by decide) ?_
    refine aw_lv [1, 2, 3, 0] rfl ?_
    exact wkX9_merge_82 hl _ _ _ _ _ hf
  · rw [if_neg c1] at hf
    refine aw_iload_n 2 dX9_merge_26 rfl ?_
    refine aw_iload_n 3 dX9_merge_27 rfl ?_
    refine aw_icmp_eq 81 dX9_merge_28 (by decide) (fun c2 => ?_) (fun c2 => ?_)
    · rw [if_pos c2] at hf
      refine aw_iconst (0 : Int32) dX9_merge_81 (by decide) ?_
      refine aw_lv [1, 2, 3, 0] rfl ?_
      exact wkX9_merge_82 hl _ _ _ _ _ hf
    · rw [if_neg c2] at hf
      refine aw_aload_n 1 dX9_merge_31 rfl ?_
      refine aw_iload_n 2 dX9_merge_32 rfl ?_
      obtain ⟨q3, hq3, hf⟩ := xbind hf
      refine aw_callV 7 (some mo) [.int a1] 1 rfl mo_ob rfl rfl (ctX9_isRoot hl _ _ hq3) ⟨wl6 (i := 38) rfl rfl, ciX9_isRoot⟩ (wl6 (i := 40) rfl rfl) (wl0 (i := 54) rfl rfl) dX9_merge_33 rfl rfl (Nat.le_of_ble_eq_true rfl) ⟨Nat.le_of_ble_eq_true rfl, Nat.le_of_ble_eq_true rfl⟩ ⟨Nat.le_of_ble_eq_true rfl, Nat.le_of_ble_eq_true rfl⟩ ?_
      refine aw_ifb_eq 81 dX9_merge_36 (by decide) (fun c4 => ?_) (fun c4 => ?_)
      · rw [if_pos c4] at hf
        refine aw_iconst (0 : Int32) dX9_merge_81 (by decide) ?_
        refine aw_lv [1, 2, 3, 0] rfl ?_
        exact wkX9_merge_82 hl _ _ _ _ _ hf
      · rw [if_neg c4] at hf
        refine aw_aload_n 1 dX9_merge_39 rfl ?_
        refine aw_iload_n 3 dX9_merge_40 rfl ?_
        obtain ⟨q5, hq5, hf⟩ := xbind hf
        refine aw_callV 7 (some mo) [.int a2] 1 rfl mo_ob rfl rfl (ctX9_isRoot hl _ _ hq5) ⟨wl6 (i := 38) rfl rfl, ciX9_isRoot⟩ (wl6 (i := 40) rfl rfl) (wl0 (i := 54) rfl rfl) dX9_merge_41 rfl rfl (Nat.le_of_ble_eq_true rfl) ⟨Nat.le_of_ble_eq_true rfl, Nat.le_of_ble_eq_true rfl⟩ ⟨Nat.le_of_ble_eq_true rfl, Nat.le_of_ble_eq_true rfl⟩ ?_
        refine aw_ifb_eq 81 dX9_merge_44 (by decide) (fun c6 => ?_) (fun c6 => ?_)
        · rw [if_pos c6] at hf
          refine aw_iconst (0 : Int32) dX9_merge_81 (by decide) ?_
          refine aw_lv [1, 2, 3, 0] rfl ?_
          exact wkX9_merge_82 hl _ _ _ _ _ hf
        · rw [if_neg c6] at hf
          refine aw_aload_n 1 dX9_merge_47 rfl ?_
          refine mo_getR 40 31 rfl (by decide) (wl4 (i := 138) rfl rfl) dX9_merge_48 ?_
          refine aw_iload_n 2 dX9_merge_51 rfl ?_
          obtain ⟨hi7, hf⟩ := xifn hf
          refine mo_iald 31 60 rfl (xin_v hi7) dX9_merge_52 ?_
          refine aw_aload_n 1 dX9_merge_53 rfl ?_
          refine mo_getR 40 31 rfl (by decide) (wl4 (i := 138) rfl rfl) dX9_merge_54 ?_
          refine aw_iload_n 3 dX9_merge_57 rfl ?_
          obtain ⟨hi8, hf⟩ := xifn hf
          refine mo_iald 31 60 rfl (xin_v hi8) dX9_merge_58 ?_
          refine aw_icmp_ne 81 dX9_merge_59 (by decide) (fun c9 => ?_) (fun c9 => ?_)
          · rw [if_neg c9] at hf
            refine aw_iconst (0 : Int32) dX9_merge_81 (by decide) ?_
            refine aw_lv [1, 2, 3, 0] rfl ?_
            exact wkX9_merge_82 hl _ _ _ _ _ hf
          · rw [if_pos c9] at hf
            refine aw_aload_n 1 dX9_merge_62 rfl ?_
            refine mo_getR 41 32 rfl (by decide) (wl4 (i := 139) rfl rfl) dX9_merge_63 ?_
            refine aw_iload_n 2 dX9_merge_66 rfl ?_
            refine mo_iald 32 60 rfl (xin_v hi7) dX9_merge_67 ?_
            refine aw_aload_n 1 dX9_merge_68 rfl ?_
            refine mo_getR 41 32 rfl (by decide) (wl4 (i := 139) rfl rfl) dX9_merge_69 ?_
            refine aw_iload_n 3 dX9_merge_72 rfl ?_
            refine mo_iald 32 60 rfl (xin_v hi8) dX9_merge_73 ?_
            refine aw_icmp_ne 81 dX9_merge_74 (by decide) (fun c10 => ?_) (fun c10 => ?_)
            · rw [if_neg c10] at hf
              refine aw_iconst (0 : Int32) dX9_merge_81 (by decide) ?_
              refine aw_lv [1, 2, 3, 0] rfl ?_
              exact wkX9_merge_82 hl _ _ _ _ _ hf
            · rw [if_pos c10] at hf
              refine aw_iconst (1 : Int32) dX9_merge_77 (by decide) ?_
              refine aw_goto 82 dX9_merge_78 (by decide) ?_
              refine aw_lv [1, 2, 3, 0] rfl ?_
              exact wkX9_merge_82 hl _ _ _ _ _ hf
def fX9_merge (S : MS) (a1 : Int32) (a2 : Int32) : Option (Int32 × MS) :=
  (fX9_isNode S a1).bind fun q1 => (if q1 = false then fX9_merge_21 S a1 a2 (0 : Int32) else (fX9_isNode S a2).bind fun q3 => (if q3 = false then fX9_merge_21 S a1 a2 (0 : Int32) else fX9_merge_21 S a1 a2 (1 : Int32)))
set_option maxHeartbeats 4000000 in
set_option maxRecDepth 100000 in
theorem ctX9_merge {l : Launch} {g : xG} {mo sz : Nat} (hl : l.stackTraces = false) {r : Int32 × MS} (S : MS) (a1 : Int32) (a2 : Int32) (hf : fX9_merge S a1 a2 = some r) : CT yX9_merge MX9_merge rmX9_merge l g [.ref mo, .int a1, .int a2] (moE g mo sz S) (.inl (some (.int r.1))) (moE g mo sz r.2) := by
  rw [fX9_merge] at hf
  refine CT.of (lv0 := [(0, .ref mo), (1, .int a1), (2, .int a2)]) (by decide +kernel) rfl rfl (Nat.le_of_ble_eq_true rfl) rfl hl ?_
  refine aw_aload_n 0 dX9_merge_0 rfl ?_
  refine aw_iload_n 1 dX9_merge_1 rfl ?_
  obtain ⟨q1, hq1, hf⟩ := xbind hf
  refine aw_callV 7 (some mo) [.int a1] 1 rfl mo_ob rfl rfl (ctX9_isNode hl _ _ hq1) ⟨wl6 (i := 14) rfl rfl, ciX9_isNode⟩ (wl6 (i := 16) rfl rfl) (wl0 (i := 51) rfl rfl) dX9_merge_2 rfl rfl (Nat.le_of_ble_eq_true rfl) ⟨Nat.le_of_ble_eq_true rfl, Nat.le_of_ble_eq_true rfl⟩ ⟨Nat.le_of_ble_eq_true rfl, Nat.le_of_ble_eq_true rfl⟩ ?_
  refine aw_ifb_eq 20 dX9_merge_5 (by decide) (fun c2 => ?_) (fun c2 => ?_)
  · rw [if_pos c2] at hf
    refine aw_iconst (0 : Int32) dX9_merge_20 (by decide) ?_
    refine aw_lv [0, 1, 2] rfl ?_
    exact wkX9_merge_21 hl _ _ _ _ hf
  · rw [if_neg c2] at hf
    refine aw_aload_n 0 dX9_merge_8 rfl ?_
    refine aw_iload_n 2 dX9_merge_9 rfl ?_
    obtain ⟨q3, hq3, hf⟩ := xbind hf
    refine aw_callV 7 (some mo) [.int a2] 1 rfl mo_ob rfl rfl (ctX9_isNode hl _ _ hq3) ⟨wl6 (i := 14) rfl rfl, ciX9_isNode⟩ (wl6 (i := 16) rfl rfl) (wl0 (i := 51) rfl rfl) dX9_merge_10 rfl rfl (Nat.le_of_ble_eq_true rfl) ⟨Nat.le_of_ble_eq_true rfl, Nat.le_of_ble_eq_true rfl⟩ ⟨Nat.le_of_ble_eq_true rfl, Nat.le_of_ble_eq_true rfl⟩ ?_
    refine aw_ifb_eq 20 dX9_merge_13 (by decide) (fun c4 => ?_) (fun c4 => ?_)
    · rw [if_pos c4] at hf
      refine aw_iconst (0 : Int32) dX9_merge_20 (by decide) ?_
      refine aw_lv [0, 1, 2] rfl ?_
      exact wkX9_merge_21 hl _ _ _ _ hf
    · rw [if_neg c4] at hf
      refine aw_iconst (1 : Int32) dX9_merge_16 (by decide) ?_
      refine aw_goto 21 dX9_merge_17 (by decide) ?_
      refine aw_lv [0, 1, 2] rfl ?_
      exact wkX9_merge_21 hl _ _ _ _ hf
abbrev MX9_net : xM := (RX9, cX9_net, 5, (some .boolean), "net")
abbrev rmX9_net : Room := { frames := 7, cells := 0, slots := 0, locals := 204 }
theorem ciX9_net : Cond.code yX9_net cX9_net 5 (some .boolean) ∈ wt ∧ Cond.initialized yX9_net.cls ∈ wt ∧ (yX9_net.cls ≠ "java/lang/invoke/MethodHandle" ∧ yX9_net.cls ≠ "java/lang/invoke/VarHandle" ∧ (parseMethodDescriptor yX9_net.desc).map (fun d => d.parameters.length) = some 3) := ⟨wl5 (i := 237) rfl rfl, wl1 (i := 4) rfl rfl, by decide +kernel, by decide +kernel, by decide +kernel⟩
def fX9_net_46 (S : MS) (a1 : Int32) (a2 : Int32) (a3 : Int32) (s1 : Int32) : Option (Bool × MS) :=
  (fX9_fails S s1).bind fun q1 => (if q1.1 = false then (fX9_reads q1.2 a1 a2 a3 (3 : Int32)).bind fun q3 => (if q3.1 = false then some (false, q3.2) else some (true, q3.2)) else some (false, q1.2))
set_option maxHeartbeats 4000000 in
set_option maxRecDepth 100000 in
theorem wkX9_net_46 {l : Launch} {g : xG} {x0 : xV} {mo sz : Nat} (hl : l.stackTraces = false) {r : Bool × MS} (S : MS) (a1 : Int32) (a2 : Int32) (a3 : Int32) (s1 : Int32) (hf : fX9_net_46 S a1 a2 a3 s1 = some r) : AW MX9_net rmX9_net l g x0 (.inl (some (.int (bi r.1)))) (moE g mo sz r.2) 0 0 (moE g mo sz S) 46 [(0, .ref mo), (1, .int a1), (2, .int a2), (3, .int a3)] [.int s1, .ref mo] := by
  rw [fX9_net_46] at hf
  obtain ⟨q1, hq1, hf⟩ := xbind hf
  refine aw_callV 7 (some mo) [.int s1] 1 rfl mo_ob rfl rfl (ctX9_fails hl _ _ hq1) ⟨wl5 (i := 16) rfl rfl, ciX9_fails⟩ (wl5 (i := 18) rfl rfl) (wl0 (i := 19) rfl rfl) dX9_net_46 rfl rfl (Nat.le_of_ble_eq_true rfl) ⟨Nat.le_of_ble_eq_true rfl, Nat.le_of_ble_eq_true rfl⟩ ⟨Nat.le_of_ble_eq_true rfl, Nat.le_of_ble_eq_true rfl⟩ ?_
  refine aw_ifb_ne 67 dX9_net_49 (by decide) (fun c2 => ?_) (fun c2 => ?_)
  · rw [if_neg c2] at hf
    refine aw_iconst (0 : Int32) dX9_net_67 (by decide) ?_
    cases hf
    exact aw_zret dX9_net_68 rfl rfl rfl rfl ⟨Nat.le_of_ble_eq_true rfl, Nat.le_of_ble_eq_true rfl⟩
  · rw [if_pos c2] at hf
    refine aw_aload_n 0 dX9_net_52 rfl ?_
    refine aw_iload_n 1 dX9_net_53 rfl ?_
    refine aw_iload_n 2 dX9_net_54 rfl ?_
    refine aw_iload_n 3 dX9_net_55 rfl ?_
    refine aw_iconst (3 : Int32) dX9_net_56 (by decide) ?_
    obtain ⟨q3, hq3, hf⟩ := xbind hf
    refine aw_callV 7 (some mo) [.int a1, .int a2, .int a3, .int (3 : Int32)] 4 rfl mo_ob rfl rfl (ctX9_reads hl _ _ _ _ _ hq3) ⟨wl5 (i := 207) rfl rfl, ciX9_reads⟩ (wl5 (i := 209) rfl rfl) (wl0 (i := 43) rfl rfl) dX9_net_57 rfl rfl (Nat.le_of_ble_eq_true rfl) ⟨Nat.le_of_ble_eq_true rfl, Nat.le_of_ble_eq_true rfl⟩ ⟨Nat.le_of_ble_eq_true rfl, Nat.le_of_ble_eq_true rfl⟩ ?_
    refine aw_ifb_eq 67 dX9_net_60 (by decide) (fun c4 => ?_) (fun c4 => ?_)
    · rw [if_pos c4] at hf
      refine aw_iconst (0 : Int32) dX9_net_67 (by decide) ?_
      cases hf
      exact aw_zret dX9_net_68 rfl rfl rfl rfl ⟨Nat.le_of_ble_eq_true rfl, Nat.le_of_ble_eq_true rfl⟩
    · rw [if_neg c4] at hf
      refine aw_iconst (1 : Int32) dX9_net_63 (by decide) ?_
      refine aw_goto 68 dX9_net_64 (by decide) ?_
      cases hf
      exact aw_zret dX9_net_68 rfl rfl rfl rfl ⟨Nat.le_of_ble_eq_true rfl, Nat.le_of_ble_eq_true rfl⟩
def fX9_net_20 (S : MS) (a1 : Int32) (a2 : Int32) (a3 : Int32) (s0 : Int32) : Option (Bool × MS) :=
  (if s0 = 0 then fX9_net_46 S a1 a2 a3 (1 : Int32) else (fX9_isIn a3 (1 : Int32) (3 : Int32)).bind fun q2 => (if q2 = false then fX9_net_46 S a1 a2 a3 (2 : Int32) else fX9_net_46 S a1 a2 a3 (0 : Int32)))
set_option maxHeartbeats 4000000 in
set_option maxRecDepth 100000 in
theorem wkX9_net_20 {l : Launch} {g : xG} {x0 : xV} {mo sz : Nat} (hl : l.stackTraces = false) {r : Bool × MS} (S : MS) (a1 : Int32) (a2 : Int32) (a3 : Int32) (s0 : Int32) (hf : fX9_net_20 S a1 a2 a3 s0 = some r) : AW MX9_net rmX9_net l g x0 (.inl (some (.int (bi r.1)))) (moE g mo sz r.2) 0 0 (moE g mo sz S) 20 [(0, .ref mo), (1, .int a1), (2, .int a2), (3, .int a3)] [.int s0] := by
  rw [fX9_net_20] at hf
  refine aw_istore [(4, .int s0), (0, .ref mo), (1, .int a1), (2, .int a2), (3, .int a3)] dX9_net_20 (by decide) rfl ?_
  refine aw_aload_n 1 dX9_net_22 rfl ?_
  refine aw_iload 0 dX9_net_23 rfl ?_
  refine aw_if_ne 32 dX9_net_25 (by decide) (fun c1 => ?_) (fun c1 => ?_)
  · rw [if_neg c1] at hf
    refine aw_iload_n 4 dX9_net_32 rfl ?_
    refine aw_iconst (1 : Int32) dX9_net_33 (by decide) ?_
    refine aw_iconst (3 : Int32) dX9_net_34 (by decide) ?_
    obtain ⟨q2, hq2, hf⟩ := xbind hf
    refine aw_callS [.int a3, .int (1 : Int32), .int (3 : Int32)] 3 (ctX9_isIn hl _ _ _ hq2) ⟨wl5 (i := 13) rfl rfl, ciX9_isIn⟩ (wl5 (i := 14) rfl rfl) dX9_net_35 rfl rfl (Nat.le_of_ble_eq_true rfl) ⟨Nat.le_of_ble_eq_true rfl, Nat.le_of_ble_eq_true rfl⟩ ⟨Nat.le_of_ble_eq_true rfl, Nat.le_of_ble_eq_true rfl⟩ ?_
    refine aw_ifb_eq 45 dX9_net_38 (by decide) (fun c3 => ?_) (fun c3 => ?_)
    · rw [if_pos c3] at hf
      refine aw_iconst (2 : Int32) dX9_net_45 (by decide) ?_
      refine aw_lv [1, 2, 3, 4] rfl ?_
      exact wkX9_net_46 hl _ _ _ _ _ hf
    · rw [if_neg c3] at hf
      refine aw_iconst (0 : Int32) dX9_net_41 (by decide) ?_
      refine aw_goto 46 dX9_net_42 (by decide) ?_
      refine aw_lv [1, 2, 3, 4] rfl ?_
      exact wkX9_net_46 hl _ _ _ _ _ hf
  · rw [if_pos c1] at hf
    refine aw_iconst (1 : Int32) dX9_net_28 (by decide) ?_
    refine aw_goto 46 dX9_net_29 (by decide) ?_
    refine aw_lv [1, 2, 3, 4] rfl ?_
    exact wkX9_net_46 hl _ _ _ _ _ hf
def fX9_net (S : MS) (a1 : Int32) (a2 : Int32) (a3 : Int32) : Option (Bool × MS) :=
  (fX9_isGame S a1).bind fun q1 => (if q1 = false then fX9_net_20 S a1 a2 a3 (0 : Int32) else (fX9_isPoint a2).bind fun q3 => (if q3 = false then fX9_net_20 S a1 a2 a3 (0 : Int32) else fX9_net_20 S a1 a2 a3 (1 : Int32)))
set_option maxHeartbeats 4000000 in
set_option maxRecDepth 100000 in
theorem ctX9_net {l : Launch} {g : xG} {mo sz : Nat} (hl : l.stackTraces = false) {r : Bool × MS} (S : MS) (a1 : Int32) (a2 : Int32) (a3 : Int32) (hf : fX9_net S a1 a2 a3 = some r) : CT yX9_net MX9_net rmX9_net l g [.ref mo, .int a1, .int a2, .int a3] (moE g mo sz S) (.inl (some (.int (bi r.1)))) (moE g mo sz r.2) := by
  rw [fX9_net] at hf
  refine CT.of (lv0 := [(0, .ref mo), (1, .int a1), (2, .int a2), (3, .int a3)]) (by decide +kernel) rfl rfl (Nat.le_of_ble_eq_true rfl) rfl hl ?_
  refine aw_aload_n 0 dX9_net_0 rfl ?_
  refine aw_iload_n 1 dX9_net_1 rfl ?_
  obtain ⟨q1, hq1, hf⟩ := xbind hf
  refine aw_callV 7 (some mo) [.int a1] 1 rfl mo_ob rfl rfl (ctX9_isGame hl _ _ hq1) ⟨wl5 (i := 62) rfl rfl, ciX9_isGame⟩ (wl5 (i := 64) rfl rfl) (wl0 (i := 26) rfl rfl) dX9_net_2 rfl rfl (Nat.le_of_ble_eq_true rfl) ⟨Nat.le_of_ble_eq_true rfl, Nat.le_of_ble_eq_true rfl⟩ ⟨Nat.le_of_ble_eq_true rfl, Nat.le_of_ble_eq_true rfl⟩ ?_
  refine aw_ifb_eq 19 dX9_net_5 (by decide) (fun c2 => ?_) (fun c2 => ?_)
  · rw [if_pos c2] at hf
    refine aw_iconst (0 : Int32) dX9_net_19 (by decide) ?_
    refine aw_lv [0, 1, 2, 3] rfl ?_
    exact wkX9_net_20 hl _ _ _ _ _ hf
  · rw [if_neg c2] at hf
    refine aw_iload_n 2 dX9_net_8 rfl ?_
    obtain ⟨q3, hq3, hf⟩ := xbind hf
    refine aw_callS [.int a2] 1 (ctX9_isPoint hl _ hq3) ⟨wl5 (i := 66) rfl rfl, ciX9_isPoint⟩ (wl5 (i := 67) rfl rfl) dX9_net_9 rfl rfl (Nat.le_of_ble_eq_true rfl) ⟨Nat.le_of_ble_eq_true rfl, Nat.le_of_ble_eq_true rfl⟩ ⟨Nat.le_of_ble_eq_true rfl, Nat.le_of_ble_eq_true rfl⟩ ?_
    refine aw_ifb_eq 19 dX9_net_12 (by decide) (fun c4 => ?_) (fun c4 => ?_)
    · rw [if_pos c4] at hf
      refine aw_iconst (0 : Int32) dX9_net_19 (by decide) ?_
      refine aw_lv [0, 1, 2, 3] rfl ?_
      exact wkX9_net_20 hl _ _ _ _ _ hf
    · rw [if_neg c4] at hf
      refine aw_iconst (1 : Int32) dX9_net_15 (by decide) ?_
      refine aw_goto 20 dX9_net_16 (by decide) ?_
      refine aw_lv [0, 1, 2, 3] rfl ?_
      exact wkX9_net_20 hl _ _ _ _ _ hf
