abbrev MX9_play : xM := (RX9, cX9_play, 6, (some .int), "play")
abbrev rmX9_play : Room := { frames := 5, cells := 0, slots := 0, locals := 137 }
theorem ciX9_play : Cond.code yX9_play cX9_play 6 (some .int) ∈ wt ∧ Cond.initialized yX9_play.cls ∈ wt ∧ (yX9_play.cls ≠ "java/lang/invoke/MethodHandle" ∧ yX9_play.cls ≠ "java/lang/invoke/VarHandle" ∧ (parseMethodDescriptor yX9_play.desc).map (fun d => d.parameters.length) = some 3) := ⟨wl5 (i := 61) rfl rfl, wl1 (i := 4) rfl rfl, by decide +kernel, by decide +kernel, by decide +kernel⟩
def fX9_play_61 (S : MS) (a1 : Int32) (a3 : Int32) (s1 : Int32) : Option (Int32 × MS) :=
  (fX9_fails S s1).bind fun q1 => (if q1.1 = false then (if xin a1 16 = true then (fX9_sideOf q1.2 a1 (m_I q1.2 12 a1.toNatClampNeg)).bind fun q4 => (fX9_runsOut q1.2 a1 a3).bind fun q5 => (if q5.1 = false then (fX9_keeps q5.2 (m_j q5.2 25) (m_j q5.2 26) (m_I q5.2 11 a1.toNatClampNeg)).bind fun q7 => (some (ms_I (ms_I q7.2 11 a1.toNatClampNeg q7.1) 12 a1.toNatClampNeg ((m_I (ms_I q7.2 11 a1.toNatClampNeg q7.1) 12 a1.toNatClampNeg) + (1 : Int32)))).bind fun W8 => some ((m_i (ms_I W8 13 a1.toNatClampNeg (0 : Int32)) 27), (ms_I W8 13 a1.toNatClampNeg (0 : Int32))) else (fX9_ends q5.2 a1 ((1 : Int32) - q4)).bind fun q9 => some ((-1 : Int32), q9)) else none) else some ((0 : Int32), q1.2))
set_option maxHeartbeats 4000000 in
set_option maxRecDepth 100000 in
theorem wkX9_play_61 {l : Launch} {g : xG} {x0 : xV} {mo sz : Nat} (hl : l.stackTraces = false) {r : Int32 × MS} (S : MS) (a1 : Int32) (a3 : Int32) (s1 : Int32) (hf : fX9_play_61 S a1 a3 s1 = some r) : AW MX9_play rmX9_play l g x0 (.inl (some (.int r.1))) (moE g mo sz r.2) 0 0 (moE g mo sz S) 61 [(0, .ref mo), (1, .int a1), (3, .int a3)] [.int s1, .ref mo] := by
  rw [fX9_play_61] at hf
  obtain ⟨q1, hq1, hf⟩ := xbind hf
  refine aw_callV 7 (some mo) [.int s1] 1 rfl mo_ob rfl rfl (ctX9_fails hl _ _ hq1) ⟨wl5 (i := 16) rfl rfl, ciX9_fails⟩ (wl5 (i := 18) rfl rfl) (wl0 (i := 19) rfl rfl) dX9_play_61 rfl rfl (Nat.le_of_ble_eq_true rfl) ⟨Nat.le_of_ble_eq_true rfl, Nat.le_of_ble_eq_true rfl⟩ ⟨Nat.le_of_ble_eq_true rfl, Nat.le_of_ble_eq_true rfl⟩ ?_
  refine aw_ifb_eq 69 dX9_play_64 (by decide) (fun c2 => ?_) (fun c2 => ?_)
  · rw [if_pos c2] at hf
    refine aw_aload_n 0 dX9_play_69 rfl ?_
    refine aw_iload_n 1 dX9_play_70 rfl ?_
    refine aw_aload_n 0 dX9_play_71 rfl ?_
    refine mo_getR 14 12 rfl (by decide) (wl4 (i := 112) rfl rfl) dX9_play_72 ?_
    refine aw_iload_n 1 dX9_play_75 rfl ?_
    obtain ⟨hi3, hf⟩ := xifn hf
    refine mo_iald 12 16 rfl (xin_v hi3) dX9_play_76 ?_
    obtain ⟨q4, hq4, hf⟩ := xbind hf
    refine aw_callV 7 (some mo) [.int a1, .int (m_I q1.2 12 a1.toNatClampNeg)] 2 rfl mo_ob rfl rfl (ctX9_sideOf hl _ _ _ hq4) ⟨wl5 (i := 77) rfl rfl, ciX9_sideOf⟩ (wl5 (i := 79) rfl rfl) (wl0 (i := 29) rfl rfl) dX9_play_77 rfl rfl (Nat.le_of_ble_eq_true rfl) ⟨Nat.le_of_ble_eq_true rfl, Nat.le_of_ble_eq_true rfl⟩ ⟨Nat.le_of_ble_eq_true rfl, Nat.le_of_ble_eq_true rfl⟩ ?_
    refine aw_istore [(5, .int q4), (0, .ref mo), (1, .int a1), (3, .int a3)] dX9_play_80 (by decide) rfl ?_
    refine aw_aload_n 1 dX9_play_82 rfl ?_
    refine aw_iload_n 2 dX9_play_83 rfl ?_
    refine aw_iload_n 3 dX9_play_84 rfl ?_
    obtain ⟨q5, hq5, hf⟩ := xbind hf
    refine aw_callV 7 (some mo) [.int a1, .int a3] 2 rfl mo_ob rfl rfl (ctX9_runsOut hl _ _ _ hq5) ⟨wl5 (i := 108) rfl rfl, ciX9_runsOut⟩ (wl5 (i := 110) rfl rfl) (wl0 (i := 32) rfl rfl) dX9_play_85 rfl rfl (Nat.le_of_ble_eq_true rfl) ⟨Nat.le_of_ble_eq_true rfl, Nat.le_of_ble_eq_true rfl⟩ ⟨Nat.le_of_ble_eq_true rfl, Nat.le_of_ble_eq_true rfl⟩ ?_
    refine aw_ifb_eq 102 dX9_play_88 (by decide) (fun c6 => ?_) (fun c6 => ?_)
    · rw [if_pos c6] at hf
      refine aw_aload_n 1 dX9_play_102 rfl ?_
      refine mo_getR 13 11 rfl (by decide) (wl4 (i := 111) rfl rfl) dX9_play_103 ?_
      refine aw_iload_n 2 dX9_play_106 rfl ?_
      refine aw_aload_n 1 dX9_play_107 rfl ?_
      refine aw_aload_n 1 dX9_play_108 rfl ?_
      refine mo_getJ 25 rfl (by decide) (wl4 (i := 123) rfl rfl) dX9_play_109 ?_
      refine aw_aload_n 1 dX9_play_112 rfl ?_
      refine mo_getJ 26 rfl (by decide) (wl4 (i := 124) rfl rfl) dX9_play_113 ?_
      refine aw_aload_n 1 dX9_play_116 rfl ?_
      refine mo_getR 13 11 rfl (by decide) (wl4 (i := 111) rfl rfl) dX9_play_117 ?_
      refine aw_iload_n 2 dX9_play_120 rfl ?_
      refine mo_iald 11 16 rfl (xin_v hi3) dX9_play_121 ?_
      obtain ⟨q7, hq7, hf⟩ := xbind hf
      refine aw_callV 7 (some mo) [.long (m_j q5.2 25), .long (m_j q5.2 26), .int (m_I q5.2 11 a1.toNatClampNeg)] 3 rfl mo_ob rfl rfl (ctX9_keeps hl _ _ _ _ hq7) ⟨wl5 (i := 54) rfl rfl, ciX9_keeps⟩ (wl5 (i := 56) rfl rfl) (wl0 (i := 25) rfl rfl) dX9_play_122 rfl rfl (Nat.le_of_ble_eq_true rfl) ⟨Nat.le_of_ble_eq_true rfl, Nat.le_of_ble_eq_true rfl⟩ ⟨Nat.le_of_ble_eq_true rfl, Nat.le_of_ble_eq_true rfl⟩ ?_
      refine mo_iast 11 16 rfl (xin_v hi3) dX9_play_125 ?_
      refine aw_aload_n 1 dX9_play_126 rfl ?_
      refine mo_getR 14 12 rfl (by decide) (wl4 (i := 112) rfl rfl) dX9_play_127 ?_
      refine aw_iload_n 2 dX9_play_130 rfl ?_
      refine aw_dup2 dX9_play_131 rfl rfl ?_
      refine mo_iald 12 16 rfl (xin_v hi3) dX9_play_132 ?_
      refine aw_iconst (1 : Int32) dX9_play_133 (by decide) ?_
      refine aw_iadd dX9_play_134 ?_
      obtain ⟨W8, hW8, hf⟩ := xlet hf
      refine mo_iast 12 16 rfl (xin_v hi3) dX9_play_135 ?_
      rw [hW8]
      refine aw_aload_n 1 dX9_play_136 rfl ?_
      refine mo_getR 15 13 rfl (by decide) (wl4 (i := 113) rfl rfl) dX9_play_137 ?_
      refine aw_iload_n 2 dX9_play_140 rfl ?_
      refine aw_iconst (0 : Int32) dX9_play_141 (by decide) ?_
      refine mo_iast 13 16 rfl (xin_v hi3) dX9_play_142 ?_
      refine aw_aload_n 1 dX9_play_143 rfl ?_
      refine mo_getI 27 rfl (by decide) (wl4 (i := 125) rfl rfl) dX9_play_144 ?_
      cases hf
      exact aw_iret dX9_play_147 rfl rfl rfl ⟨Nat.le_of_ble_eq_true rfl, Nat.le_of_ble_eq_true rfl⟩
    · rw [if_neg c6] at hf
      refine aw_aload_n 1 dX9_play_91 rfl ?_
      refine aw_iload_n 2 dX9_play_92 rfl ?_
      refine aw_iconst (1 : Int32) dX9_play_93 (by decide) ?_
      refine aw_iload 0 dX9_play_94 rfl ?_
      refine aw_isub dX9_play_96 ?_
      obtain ⟨q9, hq9, hf⟩ := xbind hf
      refine aw_callV 7 (some mo) [.int a1, .int ((1 : Int32) - q4)] 2 rfl mo_ob rfl rfl (ctX9_ends hl _ _ _ hq9) ⟨wl5 (i := 112) rfl rfl, ciX9_ends⟩ (wl5 (i := 114) rfl rfl) (wl0 (i := 33) rfl rfl) dX9_play_97 rfl rfl (Nat.le_of_ble_eq_true rfl) ⟨Nat.le_of_ble_eq_true rfl, Nat.le_of_ble_eq_true rfl⟩ ⟨Nat.le_of_ble_eq_true rfl, Nat.le_of_ble_eq_true rfl⟩ ?_
      refine aw_iconst (-1 : Int32) dX9_play_100 (by decide) ?_
      cases hf
      exact aw_iret dX9_play_101 rfl rfl rfl ⟨Nat.le_of_ble_eq_true rfl, Nat.le_of_ble_eq_true rfl⟩
  · rw [if_neg c2] at hf
    refine aw_iconst (0 : Int32) dX9_play_67 (by decide) ?_
    cases hf
    exact aw_iret dX9_play_68 rfl rfl rfl ⟨Nat.le_of_ble_eq_true rfl, Nat.le_of_ble_eq_true rfl⟩
def fX9_play_20 (S : MS) (a1 : Int32) (a2 : Int32) (a3 : Int32) (s0 : Int32) : Option (Int32 × MS) :=
  (if s0 = 0 then fX9_play_61 S a1 a3 (1 : Int32) else (fX9_isIn a3 (0 : Int32) (1000 : Int32)).bind fun q2 => (if q2 = false then fX9_play_61 S a1 a3 (2 : Int32) else (fX9_canPlay S a1 a2).bind fun q4 => (if q4.1 = false then fX9_play_61 q4.2 a1 a3 (3 : Int32) else fX9_play_61 q4.2 a1 a3 (0 : Int32))))
set_option maxHeartbeats 4000000 in
set_option maxRecDepth 100000 in
theorem wkX9_play_20 {l : Launch} {g : xG} {x0 : xV} {mo sz : Nat} (hl : l.stackTraces = false) {r : Int32 × MS} (S : MS) (a1 : Int32) (a2 : Int32) (a3 : Int32) (s0 : Int32) (hf : fX9_play_20 S a1 a2 a3 s0 = some r) : AW MX9_play rmX9_play l g x0 (.inl (some (.int r.1))) (moE g mo sz r.2) 0 0 (moE g mo sz S) 20 [(0, .ref mo), (1, .int a1), (2, .int a2), (3, .int a3)] [.int s0] := by
  rw [fX9_play_20] at hf
  refine aw_istore [(4, .int s0), (0, .ref mo), (1, .int a1), (2, .int a2), (3, .int a3)] dX9_play_20 (by decide) rfl ?_
  refine aw_aload_n 1 dX9_play_22 rfl ?_
  refine aw_iload 0 dX9_play_23 rfl ?_
  refine aw_if_ne 32 dX9_play_25 (by decide) (fun c1 => ?_) (fun c1 => ?_)
  · rw [if_neg c1] at hf
    refine aw_iload_n 4 dX9_play_32 rfl ?_
    refine aw_iconst (0 : Int32) dX9_play_33 (by decide) ?_
    refine aw_sipush (1000 : Int32) dX9_play_34 (by decide) ?_
    obtain ⟨q2, hq2, hf⟩ := xbind hf
    refine aw_callS [.int a3, .int (0 : Int32), .int (1000 : Int32)] 3 (ctX9_isIn hl _ _ _ hq2) ⟨wl5 (i := 13) rfl rfl, ciX9_isIn⟩ (wl5 (i := 14) rfl rfl) dX9_play_37 rfl rfl (Nat.le_of_ble_eq_true rfl) ⟨Nat.le_of_ble_eq_true rfl, Nat.le_of_ble_eq_true rfl⟩ ⟨Nat.le_of_ble_eq_true rfl, Nat.le_of_ble_eq_true rfl⟩ ?_
    refine aw_ifb_ne 47 dX9_play_40 (by decide) (fun c3 => ?_) (fun c3 => ?_)
    · rw [if_neg c3] at hf
      refine aw_aload_n 1 dX9_play_47 rfl ?_
      refine aw_iload_n 2 dX9_play_48 rfl ?_
      refine aw_iload_n 3 dX9_play_49 rfl ?_
      obtain ⟨q4, hq4, hf⟩ := xbind hf
      refine aw_callV 7 (some mo) [.int a1, .int a2] 2 rfl mo_ob rfl rfl (ctX9_canPlay hl _ _ _ hq4) ⟨wl5 (i := 69) rfl rfl, ciX9_canPlay⟩ (wl5 (i := 71) rfl rfl) (wl0 (i := 27) rfl rfl) dX9_play_50 rfl rfl (Nat.le_of_ble_eq_true rfl) ⟨Nat.le_of_ble_eq_true rfl, Nat.le_of_ble_eq_true rfl⟩ ⟨Nat.le_of_ble_eq_true rfl, Nat.le_of_ble_eq_true rfl⟩ ?_
      refine aw_ifb_eq 60 dX9_play_53 (by decide) (fun c5 => ?_) (fun c5 => ?_)
      · rw [if_pos c5] at hf
        refine aw_iconst (3 : Int32) dX9_play_60 (by decide) ?_
        refine aw_lv [1, 2, 4] rfl ?_
        exact wkX9_play_61 hl _ _ _ _ hf
      · rw [if_neg c5] at hf
        refine aw_iconst (0 : Int32) dX9_play_56 (by decide) ?_
        refine aw_goto 61 dX9_play_57 (by decide) ?_
        refine aw_lv [1, 2, 4] rfl ?_
        exact wkX9_play_61 hl _ _ _ _ hf
    · rw [if_pos c3] at hf
      refine aw_iconst (2 : Int32) dX9_play_43 (by decide) ?_
      refine aw_goto 61 dX9_play_44 (by decide) ?_
      refine aw_lv [1, 2, 4] rfl ?_
      exact wkX9_play_61 hl _ _ _ _ hf
  · rw [if_pos c1] at hf
    refine aw_iconst (1 : Int32) dX9_play_28 (by decide) ?_
    refine aw_goto 61 dX9_play_29 (by decide) ?_
    refine aw_lv [1, 2, 4] rfl ?_
    exact wkX9_play_61 hl _ _ _ _ hf
def fX9_play (S : MS) (a1 : Int32) (a2 : Int32) (a3 : Int32) : Option (Int32 × MS) :=
  (fX9_isGame S a1).bind fun q1 => (if q1 = false then fX9_play_20 S a1 a2 a3 (0 : Int32) else (fX9_isPoint a2).bind fun q3 => (if q3 = false then fX9_play_20 S a1 a2 a3 (0 : Int32) else fX9_play_20 S a1 a2 a3 (1 : Int32)))
set_option maxHeartbeats 4000000 in
set_option maxRecDepth 100000 in
theorem ctX9_play {l : Launch} {g : xG} {mo sz : Nat} (hl : l.stackTraces = false) {r : Int32 × MS} (S : MS) (a1 : Int32) (a2 : Int32) (a3 : Int32) (hf : fX9_play S a1 a2 a3 = some r) : CT yX9_play MX9_play rmX9_play l g [.ref mo, .int a1, .int a2, .int a3] (moE g mo sz S) (.inl (some (.int r.1))) (moE g mo sz r.2) := by
  rw [fX9_play] at hf
  refine CT.of (lv0 := [(0, .ref mo), (1, .int a1), (2, .int a2), (3, .int a3)]) (by decide +kernel) rfl rfl (Nat.le_of_ble_eq_true rfl) rfl hl ?_
  refine aw_aload_n 0 dX9_play_0 rfl ?_
  refine aw_iload_n 1 dX9_play_1 rfl ?_
  obtain ⟨q1, hq1, hf⟩ := xbind hf
  refine aw_callV 7 (some mo) [.int a1] 1 rfl mo_ob rfl rfl (ctX9_isGame hl _ _ hq1) ⟨wl5 (i := 62) rfl rfl, ciX9_isGame⟩ (wl5 (i := 64) rfl rfl) (wl0 (i := 26) rfl rfl) dX9_play_2 rfl rfl (Nat.le_of_ble_eq_true rfl) ⟨Nat.le_of_ble_eq_true rfl, Nat.le_of_ble_eq_true rfl⟩ ⟨Nat.le_of_ble_eq_true rfl, Nat.le_of_ble_eq_true rfl⟩ ?_
  refine aw_ifb_eq 19 dX9_play_5 (by decide) (fun c2 => ?_) (fun c2 => ?_)
  · rw [if_pos c2] at hf
    refine aw_iconst (0 : Int32) dX9_play_19 (by decide) ?_
    refine aw_lv [0, 1, 2, 3] rfl ?_
    exact wkX9_play_20 hl _ _ _ _ _ hf
  · rw [if_neg c2] at hf
    refine aw_iload_n 2 dX9_play_8 rfl ?_
    obtain ⟨q3, hq3, hf⟩ := xbind hf
    refine aw_callS [.int a2] 1 (ctX9_isPoint hl _ hq3) ⟨wl5 (i := 66) rfl rfl, ciX9_isPoint⟩ (wl5 (i := 67) rfl rfl) dX9_play_9 rfl rfl (Nat.le_of_ble_eq_true rfl) ⟨Nat.le_of_ble_eq_true rfl, Nat.le_of_ble_eq_true rfl⟩ ⟨Nat.le_of_ble_eq_true rfl, Nat.le_of_ble_eq_true rfl⟩ ?_
    refine aw_ifb_eq 19 dX9_play_12 (by decide) (fun c4 => ?_) (fun c4 => ?_)
    · rw [if_pos c4] at hf
      refine aw_iconst (0 : Int32) dX9_play_19 (by decide) ?_
      refine aw_lv [0, 1, 2, 3] rfl ?_
      exact wkX9_play_20 hl _ _ _ _ _ hf
    · rw [if_neg c4] at hf
      refine aw_iconst (1 : Int32) dX9_play_15 (by decide) ?_
      refine aw_goto 20 dX9_play_16 (by decide) ?_
      refine aw_lv [0, 1, 2, 3] rfl ?_
      exact wkX9_play_20 hl _ _ _ _ _ hf
abbrev MX9_player : xM := (RX9, cX9_player, 2, (some .int), "player")
abbrev rmX9_player : Room := { frames := 1, cells := 0, slots := 0, locals := 22 }
theorem ciX9_player : Cond.code yX9_player cX9_player 2 (some .int) ∈ wt ∧ Cond.initialized yX9_player.cls ∈ wt ∧ (yX9_player.cls ≠ "java/lang/invoke/MethodHandle" ∧ yX9_player.cls ≠ "java/lang/invoke/VarHandle" ∧ (parseMethodDescriptor yX9_player.desc).map (fun d => d.parameters.length) = some 1) := ⟨wl5 (i := 12) rfl rfl, wl1 (i := 4) rfl rfl, by decide +kernel, by decide +kernel, by decide +kernel⟩
def fX9_player_29 (S : MS) (a1 : Int32) (s1 : Int32) : Option (Int32 × MS) :=
  (fX9_fails S s1).bind fun q1 => (if q1.1 = false then (if xin (m_i q1.2 0) 8 = true then (if xin (m_i (ms_I q1.2 0 (m_i q1.2 0).toNatClampNeg a1) 0) 8 = true then (some (ms_I (ms_I q1.2 0 (m_i q1.2 0).toNatClampNeg a1) 1 (m_i (ms_I q1.2 0 (m_i q1.2 0).toNatClampNeg a1) 0).toNatClampNeg a1)).bind fun W5 => some (((m_i (ms_i W5 0 ((m_i W5 0) + (1 : Int32))) 0) - (1 : Int32)), (ms_i W5 0 ((m_i W5 0) + (1 : Int32)))) else none) else none) else some ((0 : Int32), q1.2))
set_option maxHeartbeats 4000000 in
set_option maxRecDepth 100000 in
theorem wkX9_player_29 {l : Launch} {g : xG} {x0 : xV} {mo sz : Nat} (hl : l.stackTraces = false) {r : Int32 × MS} (S : MS) (a1 : Int32) (s1 : Int32) (hf : fX9_player_29 S a1 s1 = some r) : AW MX9_player rmX9_player l g x0 (.inl (some (.int r.1))) (moE g mo sz r.2) 0 0 (moE g mo sz S) 29 [(0, .ref mo), (1, .int a1)] [.int s1, .ref mo] := by
  rw [fX9_player_29] at hf
  obtain ⟨q1, hq1, hf⟩ := xbind hf
  refine aw_callV 7 (some mo) [.int s1] 1 rfl mo_ob rfl rfl (ctX9_fails hl _ _ hq1) ⟨wl5 (i := 16) rfl rfl, ciX9_fails⟩ (wl5 (i := 18) rfl rfl) (wl0 (i := 19) rfl rfl) dX9_player_29 rfl rfl (Nat.le_of_ble_eq_true rfl) ⟨Nat.le_of_ble_eq_true rfl, Nat.le_of_ble_eq_true rfl⟩ ⟨Nat.le_of_ble_eq_true rfl, Nat.le_of_ble_eq_true rfl⟩ ?_
  refine aw_ifb_eq 37 dX9_player_32 (by decide) (fun c2 => ?_) (fun c2 => ?_)
  · rw [if_pos c2] at hf
    refine aw_aload_n 0 dX9_player_37 rfl ?_
    refine mo_getR 1 0 rfl (by decide) (wl4 (i := 99) rfl rfl) dX9_player_38 ?_
    refine aw_aload_n 0 dX9_player_41 rfl ?_
    refine mo_getI 0 rfl (by decide) (wl4 (i := 98) rfl rfl) dX9_player_42 ?_
    refine aw_iload_n 1 dX9_player_45 rfl ?_
    obtain ⟨hi3, hf⟩ := xifn hf
    refine mo_iast 0 8 rfl (xin_v hi3) dX9_player_46 ?_
    refine aw_aload_n 0 dX9_player_47 rfl ?_
    refine mo_getR 2 1 rfl (by decide) (wl4 (i := 100) rfl rfl) dX9_player_48 ?_
    refine aw_aload_n 0 dX9_player_51 rfl ?_
    refine mo_getI 0 rfl (by decide) (wl4 (i := 98) rfl rfl) dX9_player_52 ?_
    refine aw_iload_n 1 dX9_player_55 rfl ?_
    obtain ⟨hi4, hf⟩ := xifn hf
    obtain ⟨W5, hW5, hf⟩ := xlet hf
    refine mo_iast 1 8 rfl (xin_v hi4) dX9_player_56 ?_
    rw [hW5]
    refine aw_aload_n 0 dX9_player_57 rfl ?_
    refine aw_dup dX9_player_58 rfl ?_
    refine mo_getI 0 rfl (by decide) (wl4 (i := 98) rfl rfl) dX9_player_59 ?_
    refine aw_iconst (1 : Int32) dX9_player_62 (by decide) ?_
    refine aw_iadd dX9_player_63 ?_
    refine mo_putI 0 rfl (by decide) rfl rfl rfl rfl (wl4 (i := 98) rfl rfl) dX9_player_64 ?_
    refine aw_aload_n 0 dX9_player_67 rfl ?_
    refine mo_getI 0 rfl (by decide) (wl4 (i := 98) rfl rfl) dX9_player_68 ?_
    refine aw_iconst (1 : Int32) dX9_player_71 (by decide) ?_
    refine aw_isub dX9_player_72 ?_
    cases hf
    exact aw_iret dX9_player_73 rfl rfl rfl ⟨Nat.le_of_ble_eq_true rfl, Nat.le_of_ble_eq_true rfl⟩
  · rw [if_neg c2] at hf
    refine aw_iconst (0 : Int32) dX9_player_35 (by decide) ?_
    cases hf
    exact aw_iret dX9_player_36 rfl rfl rfl ⟨Nat.le_of_ble_eq_true rfl, Nat.le_of_ble_eq_true rfl⟩
def fX9_player (S : MS) (a1 : Int32) : Option (Int32 × MS) :=
  (fX9_isIn a1 (0 : Int32) (20 : Int32)).bind fun q1 => (if q1 = false then fX9_player_29 S a1 (1 : Int32) else (if (m_i S 0) = (8 : Int32) then fX9_player_29 S a1 (2 : Int32) else fX9_player_29 S a1 (0 : Int32)))
set_option maxHeartbeats 4000000 in
set_option maxRecDepth 100000 in
theorem ctX9_player {l : Launch} {g : xG} {mo sz : Nat} (hl : l.stackTraces = false) {r : Int32 × MS} (S : MS) (a1 : Int32) (hf : fX9_player S a1 = some r) : CT yX9_player MX9_player rmX9_player l g [.ref mo, .int a1] (moE g mo sz S) (.inl (some (.int r.1))) (moE g mo sz r.2) := by
  rw [fX9_player] at hf
  refine CT.of (lv0 := [(0, .ref mo), (1, .int a1)]) (by decide +kernel) rfl rfl (Nat.le_of_ble_eq_true rfl) rfl hl ?_
  refine aw_aload_n 0 dX9_player_0 rfl ?_
  refine aw_iload_n 1 dX9_player_1 rfl ?_
  refine aw_iconst (0 : Int32) dX9_player_2 (by decide) ?_
  refine aw_bipush (20 : Int32) dX9_player_3 (by decide) ?_
  obtain ⟨q1, hq1, hf⟩ := xbind hf
  refine aw_callS [.int a1, .int (0 : Int32), .int (20 : Int32)] 3 (ctX9_isIn hl _ _ _ hq1) ⟨wl5 (i := 13) rfl rfl, ciX9_isIn⟩ (wl5 (i := 14) rfl rfl) dX9_player_5 rfl rfl (Nat.le_of_ble_eq_true rfl) ⟨Nat.le_of_ble_eq_true rfl, Nat.le_of_ble_eq_true rfl⟩ ⟨Nat.le_of_ble_eq_true rfl, Nat.le_of_ble_eq_true rfl⟩ ?_
  refine aw_ifb_ne 15 dX9_player_8 (by decide) (fun c2 => ?_) (fun c2 => ?_)
  · rw [if_neg c2] at hf
    refine aw_aload_n 0 dX9_player_15 rfl ?_
    refine mo_getI 0 rfl (by decide) (wl4 (i := 98) rfl rfl) dX9_player_16 ?_
    refine aw_bipush (8 : Int32) dX9_player_19 (by decide) ?_
    refine aw_icmp_ne 28 dX9_player_21 (by decide) (fun c3 => ?_) (fun c3 => ?_)
    · rw [if_neg c3] at hf
      refine aw_iconst (0 : Int32) dX9_player_28 (by decide) ?_
      refine aw_lv [0, 1] rfl ?_
      exact wkX9_player_29 hl _ _ _ hf
    · rw [if_pos c3] at hf
      refine aw_iconst (2 : Int32) dX9_player_24 (by decide) ?_
      refine aw_goto 29 dX9_player_25 (by decide) ?_
      refine aw_lv [0, 1] rfl ?_
      exact wkX9_player_29 hl _ _ _ hf
  · rw [if_pos c2] at hf
    refine aw_iconst (1 : Int32) dX9_player_11 (by decide) ?_
    refine aw_goto 29 dX9_player_12 (by decide) ?_
    refine aw_lv [0, 1] rfl ?_
    exact wkX9_player_29 hl _ _ _ hf
abbrev MX9_rank : xM := (RX9, cX9_rank, 2, (some .int), "rank")
abbrev rmX9_rank : Room := { frames := 2, cells := 0, slots := 0, locals := 43 }
theorem ciX9_rank : Cond.code yX9_rank cX9_rank 2 (some .int) ∈ wt ∧ Cond.initialized yX9_rank.cls ∈ wt ∧ (yX9_rank.cls ≠ "java/lang/invoke/MethodHandle" ∧ yX9_rank.cls ≠ "java/lang/invoke/VarHandle" ∧ (parseMethodDescriptor yX9_rank.desc).map (fun d => d.parameters.length) = some 1) := ⟨wl5 (i := 23) rfl rfl, wl1 (i := 4) rfl rfl, by decide +kernel, by decide +kernel, by decide +kernel⟩
def fX9_rank_57 (S : MS) (s0 : Int32) (s1 : Int32) : Option (Int32 × MS) :=
  some ((s0 + s1), S)
set_option maxHeartbeats 4000000 in
set_option maxRecDepth 100000 in
theorem wkX9_rank_57 {l : Launch} {g : xG} {x0 : xV} {mo sz : Nat} (hl : l.stackTraces = false) {r : Int32 × MS} (S : MS) (s0 : Int32) (s1 : Int32) (hf : fX9_rank_57 S s0 s1 = some r) : AW MX9_rank rmX9_rank l g x0 (.inl (some (.int r.1))) (moE g mo sz r.2) 0 0 (moE g mo sz S) 57 [] [.int s1, .int s0] := by
  rw [fX9_rank_57] at hf
  refine aw_iadd dX9_rank_57 ?_
  cases hf
  exact aw_iret dX9_rank_58 rfl rfl rfl ⟨Nat.le_of_ble_eq_true rfl, Nat.le_of_ble_eq_true rfl⟩
def fX9_rank_14 (S : MS) (a1 : Int32) (s1 : Int32) : Option (Int32 × MS) :=
  (fX9_fails S s1).bind fun q1 => (if q1.1 = false then (if xin a1 8 = true then (if 0 ≤ (m_I q1.2 2 a1.toNatClampNeg) then fX9_rank_57 q1.2 ((10 : Int32) * (m_I q1.2 1 a1.toNatClampNeg)) (m_I q1.2 2 a1.toNatClampNeg) else fX9_rank_57 q1.2 ((10 : Int32) * (m_I q1.2 1 a1.toNatClampNeg)) ((5 : Int32) - (m_I q1.2 2 a1.toNatClampNeg))) else none) else some ((0 : Int32), q1.2))
set_option maxHeartbeats 4000000 in
set_option maxRecDepth 100000 in
theorem wkX9_rank_14 {l : Launch} {g : xG} {x0 : xV} {mo sz : Nat} (hl : l.stackTraces = false) {r : Int32 × MS} (S : MS) (a1 : Int32) (s1 : Int32) (hf : fX9_rank_14 S a1 s1 = some r) : AW MX9_rank rmX9_rank l g x0 (.inl (some (.int r.1))) (moE g mo sz r.2) 0 0 (moE g mo sz S) 14 [(0, .ref mo), (1, .int a1)] [.int s1, .ref mo] := by
  rw [fX9_rank_14] at hf
  obtain ⟨q1, hq1, hf⟩ := xbind hf
  refine aw_callV 7 (some mo) [.int s1] 1 rfl mo_ob rfl rfl (ctX9_fails hl _ _ hq1) ⟨wl5 (i := 16) rfl rfl, ciX9_fails⟩ (wl5 (i := 18) rfl rfl) (wl0 (i := 19) rfl rfl) dX9_rank_14 rfl rfl (Nat.le_of_ble_eq_true rfl) ⟨Nat.le_of_ble_eq_true rfl, Nat.le_of_ble_eq_true rfl⟩ ⟨Nat.le_of_ble_eq_true rfl, Nat.le_of_ble_eq_true rfl⟩ ?_
  refine aw_ifb_eq 22 dX9_rank_17 (by decide) (fun c2 => ?_) (fun c2 => ?_)
  · rw [if_pos c2] at hf
    refine aw_bipush (10 : Int32) dX9_rank_22 (by decide) ?_
    refine aw_aload_n 0 dX9_rank_24 rfl ?_
    refine mo_getR 2 1 rfl (by decide) (wl4 (i := 100) rfl rfl) dX9_rank_25 ?_
    refine aw_iload_n 1 dX9_rank_28 rfl ?_
    obtain ⟨hi3, hf⟩ := xifn hf
    refine mo_iald 1 8 rfl (xin_v hi3) dX9_rank_29 ?_
    refine aw_imul dX9_rank_30 ?_
    refine aw_aload_n 0 dX9_rank_31 rfl ?_
    refine mo_getR 3 2 rfl (by decide) (wl4 (i := 101) rfl rfl) dX9_rank_32 ?_
    refine aw_iload_n 1 dX9_rank_35 rfl ?_
    refine mo_iald 2 8 rfl (xin_v hi3) dX9_rank_36 ?_
    refine aw_if_ge 51 dX9_rank_37 (by decide) (fun c4 => ?_) (fun c4 => ?_)
    · rw [if_pos c4] at hf
      refine aw_aload_n 0 dX9_rank_51 rfl ?_
      refine mo_getR 3 2 rfl (by decide) (wl4 (i := 101) rfl rfl) dX9_rank_52 ?_
      refine aw_iload_n 1 dX9_rank_55 rfl ?_
      refine mo_iald 2 8 rfl (xin_v hi3) dX9_rank_56 ?_
      refine aw_lv [] rfl ?_
      exact wkX9_rank_57 hl _ _ _ hf
    · rw [if_neg c4] at hf
      refine aw_iconst (5 : Int32) dX9_rank_40 (by decide) ?_
      refine aw_aload_n 0 dX9_rank_41 rfl ?_
      refine mo_getR 3 2 rfl (by decide) (wl4 (i := 101) rfl rfl) dX9_rank_42 ?_
      refine aw_iload_n 1 dX9_rank_45 rfl ?_
      refine mo_iald 2 8 rfl (xin_v hi3) dX9_rank_46 ?_
      refine aw_isub dX9_rank_47 ?_
      refine aw_goto 57 dX9_rank_48 (by decide) ?_
      refine aw_lv [] rfl ?_
      exact wkX9_rank_57 hl _ _ _ hf
  · rw [if_neg c2] at hf
    refine aw_iconst (0 : Int32) dX9_rank_20 (by decide) ?_
    cases hf
    exact aw_iret dX9_rank_21 rfl rfl rfl ⟨Nat.le_of_ble_eq_true rfl, Nat.le_of_ble_eq_true rfl⟩
def fX9_rank (S : MS) (a1 : Int32) : Option (Int32 × MS) :=
  (fX9_isPlayer S a1).bind fun q1 => (if q1 = false then fX9_rank_14 S a1 (1 : Int32) else fX9_rank_14 S a1 (0 : Int32))
set_option maxHeartbeats 4000000 in
set_option maxRecDepth 100000 in
theorem ctX9_rank {l : Launch} {g : xG} {mo sz : Nat} (hl : l.stackTraces = false) {r : Int32 × MS} (S : MS) (a1 : Int32) (hf : fX9_rank S a1 = some r) : CT yX9_rank MX9_rank rmX9_rank l g [.ref mo, .int a1] (moE g mo sz S) (.inl (some (.int r.1))) (moE g mo sz r.2) := by
  rw [fX9_rank] at hf
  refine CT.of (lv0 := [(0, .ref mo), (1, .int a1)]) (by decide +kernel) rfl rfl (Nat.le_of_ble_eq_true rfl) rfl hl ?_
  refine aw_aload_n 0 dX9_rank_0 rfl ?_
  refine aw_aload_n 0 dX9_rank_1 rfl ?_
  refine aw_iload_n 1 dX9_rank_2 rfl ?_
  obtain ⟨q1, hq1, hf⟩ := xbind hf
  refine aw_callV 7 (some mo) [.int a1] 1 rfl mo_ob rfl rfl (ctX9_isPlayer hl _ _ hq1) ⟨wl5 (i := 24) rfl rfl, ciX9_isPlayer⟩ (wl5 (i := 26) rfl rfl) (wl0 (i := 20) rfl rfl) dX9_rank_3 rfl rfl (Nat.le_of_ble_eq_true rfl) ⟨Nat.le_of_ble_eq_true rfl, Nat.le_of_ble_eq_true rfl⟩ ⟨Nat.le_of_ble_eq_true rfl, Nat.le_of_ble_eq_true rfl⟩ ?_
  refine aw_ifb_eq 13 dX9_rank_6 (by decide) (fun c2 => ?_) (fun c2 => ?_)
  · rw [if_pos c2] at hf
    refine aw_iconst (1 : Int32) dX9_rank_13 (by decide) ?_
    refine aw_lv [0, 1] rfl ?_
    exact wkX9_rank_14 hl _ _ _ hf
  · rw [if_neg c2] at hf
    refine aw_iconst (0 : Int32) dX9_rank_9 (by decide) ?_
    refine aw_goto 14 dX9_rank_10 (by decide) ?_
    refine aw_lv [0, 1] rfl ?_
    exact wkX9_rank_14 hl _ _ _ hf
abbrev MX9_resign : xM := (RX9, cX9_resign, 3, (some .int), "resign")
abbrev rmX9_resign : Room := { frames := 3, cells := 0, slots := 0, locals := 65 }
theorem ciX9_resign : Cond.code yX9_resign cX9_resign 3 (some .int) ∈ wt ∧ Cond.initialized yX9_resign.cls ∈ wt ∧ (yX9_resign.cls ≠ "java/lang/invoke/MethodHandle" ∧ yX9_resign.cls ≠ "java/lang/invoke/VarHandle" ∧ (parseMethodDescriptor yX9_resign.desc).map (fun d => d.parameters.length) = some 1) := ⟨wl5 (i := 135) rfl rfl, wl1 (i := 4) rfl rfl, by decide +kernel, by decide +kernel, by decide +kernel⟩
def fX9_resign_29 (S : MS) (a1 : Int32) (s1 : Int32) : Option (Int32 × MS) :=
  (fX9_fails S s1).bind fun q1 => (if q1.1 = false then (if xin a1 16 = true then (fX9_sideOf q1.2 a1 (m_I q1.2 12 a1.toNatClampNeg)).bind fun q4 => (fX9_ends q1.2 a1 ((1 : Int32) - q4)).bind fun q5 => some ((m_I q5 8 a1.toNatClampNeg), q5) else none) else some ((0 : Int32), q1.2))
set_option maxHeartbeats 4000000 in
set_option maxRecDepth 100000 in
theorem wkX9_resign_29 {l : Launch} {g : xG} {x0 : xV} {mo sz : Nat} (hl : l.stackTraces = false) {r : Int32 × MS} (S : MS) (a1 : Int32) (s1 : Int32) (hf : fX9_resign_29 S a1 s1 = some r) : AW MX9_resign rmX9_resign l g x0 (.inl (some (.int r.1))) (moE g mo sz r.2) 0 0 (moE g mo sz S) 29 [(0, .ref mo), (1, .int a1)] [.int s1, .ref mo] := by
  rw [fX9_resign_29] at hf
  obtain ⟨q1, hq1, hf⟩ := xbind hf
  refine aw_callV 7 (some mo) [.int s1] 1 rfl mo_ob rfl rfl (ctX9_fails hl _ _ hq1) ⟨wl5 (i := 16) rfl rfl, ciX9_fails⟩ (wl5 (i := 18) rfl rfl) (wl0 (i := 19) rfl rfl) dX9_resign_29 rfl rfl (Nat.le_of_ble_eq_true rfl) ⟨Nat.le_of_ble_eq_true rfl, Nat.le_of_ble_eq_true rfl⟩ ⟨Nat.le_of_ble_eq_true rfl, Nat.le_of_ble_eq_true rfl⟩ ?_
  refine aw_ifb_eq 37 dX9_resign_32 (by decide) (fun c2 => ?_) (fun c2 => ?_)
  · rw [if_pos c2] at hf
    refine aw_aload_n 0 dX9_resign_37 rfl ?_
    refine aw_iload_n 1 dX9_resign_38 rfl ?_
    refine aw_iconst (1 : Int32) dX9_resign_39 (by decide) ?_
    refine aw_aload_n 0 dX9_resign_40 rfl ?_
    refine aw_iload_n 1 dX9_resign_41 rfl ?_
    refine aw_aload_n 0 dX9_resign_42 rfl ?_
    refine mo_getR 14 12 rfl (by decide) (wl4 (i := 112) rfl rfl) dX9_resign_43 ?_
    refine aw_iload_n 1 dX9_resign_46 rfl ?_
    obtain ⟨hi3, hf⟩ := xifn hf
    refine mo_iald 12 16 rfl (xin_v hi3) dX9_resign_47 ?_
    obtain ⟨q4, hq4, hf⟩ := xbind hf
    refine aw_callV 7 (some mo) [.int a1, .int (m_I q1.2 12 a1.toNatClampNeg)] 2 rfl mo_ob rfl rfl (ctX9_sideOf hl _ _ _ hq4) ⟨wl5 (i := 77) rfl rfl, ciX9_sideOf⟩ (wl5 (i := 79) rfl rfl) (wl0 (i := 29) rfl rfl) dX9_resign_48 rfl rfl (Nat.le_of_ble_eq_true rfl) ⟨Nat.le_of_ble_eq_true rfl, Nat.le_of_ble_eq_true rfl⟩ ⟨Nat.le_of_ble_eq_true rfl, Nat.le_of_ble_eq_true rfl⟩ ?_
    refine aw_isub dX9_resign_51 ?_
    obtain ⟨q5, hq5, hf⟩ := xbind hf
    refine aw_callV 7 (some mo) [.int a1, .int ((1 : Int32) - q4)] 2 rfl mo_ob rfl rfl (ctX9_ends hl _ _ _ hq5) ⟨wl5 (i := 112) rfl rfl, ciX9_ends⟩ (wl5 (i := 114) rfl rfl) (wl0 (i := 33) rfl rfl) dX9_resign_52 rfl rfl (Nat.le_of_ble_eq_true rfl) ⟨Nat.le_of_ble_eq_true rfl, Nat.le_of_ble_eq_true rfl⟩ ⟨Nat.le_of_ble_eq_true rfl, Nat.le_of_ble_eq_true rfl⟩ ?_
    refine aw_aload_n 0 dX9_resign_55 rfl ?_
    refine mo_getR 10 8 rfl (by decide) (wl4 (i := 108) rfl rfl) dX9_resign_56 ?_
    refine aw_iload_n 1 dX9_resign_59 rfl ?_
    refine mo_iald 8 16 rfl (xin_v hi3) dX9_resign_60 ?_
    cases hf
    exact aw_iret dX9_resign_61 rfl rfl rfl ⟨Nat.le_of_ble_eq_true rfl, Nat.le_of_ble_eq_true rfl⟩
  · rw [if_neg c2] at hf
    refine aw_iconst (0 : Int32) dX9_resign_35 (by decide) ?_
    cases hf
    exact aw_iret dX9_resign_36 rfl rfl rfl ⟨Nat.le_of_ble_eq_true rfl, Nat.le_of_ble_eq_true rfl⟩
def fX9_resign (S : MS) (a1 : Int32) : Option (Int32 × MS) :=
  (fX9_isGame S a1).bind fun q1 => (if q1 = false then fX9_resign_29 S a1 (1 : Int32) else (if xin a1 16 = true then (if (m_I S 8 a1.toNatClampNeg) = 0 then fX9_resign_29 S a1 (0 : Int32) else fX9_resign_29 S a1 (2 : Int32)) else none))
set_option maxHeartbeats 4000000 in
set_option maxRecDepth 100000 in
theorem ctX9_resign {l : Launch} {g : xG} {mo sz : Nat} (hl : l.stackTraces = false) {r : Int32 × MS} (S : MS) (a1 : Int32) (hf : fX9_resign S a1 = some r) : CT yX9_resign MX9_resign rmX9_resign l g [.ref mo, .int a1] (moE g mo sz S) (.inl (some (.int r.1))) (moE g mo sz r.2) := by
  rw [fX9_resign] at hf
  refine CT.of (lv0 := [(0, .ref mo), (1, .int a1)]) (by decide +kernel) rfl rfl (Nat.le_of_ble_eq_true rfl) rfl hl ?_
  refine aw_aload_n 0 dX9_resign_0 rfl ?_
  refine aw_iload_n 1 dX9_resign_1 rfl ?_
  obtain ⟨q1, hq1, hf⟩ := xbind hf
  refine aw_callV 7 (some mo) [.int a1] 1 rfl mo_ob rfl rfl (ctX9_isGame hl _ _ hq1) ⟨wl5 (i := 62) rfl rfl, ciX9_isGame⟩ (wl5 (i := 64) rfl rfl) (wl0 (i := 26) rfl rfl) dX9_resign_2 rfl rfl (Nat.le_of_ble_eq_true rfl) ⟨Nat.le_of_ble_eq_true rfl, Nat.le_of_ble_eq_true rfl⟩ ⟨Nat.le_of_ble_eq_true rfl, Nat.le_of_ble_eq_true rfl⟩ ?_
  refine aw_istore_n [(2, .int (bi q1)), (0, .ref mo), (1, .int a1)] dX9_resign_5 rfl (by decide) rfl ?_
  refine aw_aload_n 1 dX9_resign_6 rfl ?_
  refine aw_iload_n 0 dX9_resign_7 rfl ?_
  refine aw_ifb_ne 15 dX9_resign_8 (by decide) (fun c2 => ?_) (fun c2 => ?_)
  · rw [if_neg c2] at hf
    refine aw_aload_n 1 dX9_resign_15 rfl ?_
    refine mo_getR 10 8 rfl (by decide) (wl4 (i := 108) rfl rfl) dX9_resign_16 ?_
    refine aw_iload_n 2 dX9_resign_19 rfl ?_
    obtain ⟨hi3, hf⟩ := xifn hf
    refine mo_iald 8 16 rfl (xin_v hi3) dX9_resign_20 ?_
    refine aw_if_ne 28 dX9_resign_21 (by decide) (fun c4 => ?_) (fun c4 => ?_)
    · rw [if_neg c4] at hf
      refine aw_iconst (2 : Int32) dX9_resign_28 (by decide) ?_
      refine aw_lv [1, 2] rfl ?_
      exact wkX9_resign_29 hl _ _ _ hf
    · rw [if_pos c4] at hf
      refine aw_iconst (0 : Int32) dX9_resign_24 (by decide) ?_
      refine aw_goto 29 dX9_resign_25 (by decide) ?_
      refine aw_lv [1, 2] rfl ?_
      exact wkX9_resign_29 hl _ _ _ hf
  · rw [if_pos c2] at hf
    refine aw_iconst (1 : Int32) dX9_resign_11 (by decide) ?_
    refine aw_goto 29 dX9_resign_12 (by decide) ?_
    refine aw_lv [1, 2] rfl ?_
    exact wkX9_resign_29 hl _ _ _ hf
abbrev MX9_score : xM := (RX9, cX9_score, 2, (some .int), "score")
abbrev rmX9_score : Room := { frames := 3, cells := 0, slots := 0, locals := 82 }
theorem ciX9_score : Cond.code yX9_score cX9_score 2 (some .int) ∈ wt ∧ Cond.initialized yX9_score.cls ∈ wt ∧ (yX9_score.cls ≠ "java/lang/invoke/MethodHandle" ∧ yX9_score.cls ≠ "java/lang/invoke/VarHandle" ∧ (parseMethodDescriptor yX9_score.desc).map (fun d => d.parameters.length) = some 1) := ⟨wl5 (i := 159) rfl rfl, wl1 (i := 4) rfl rfl, by decide +kernel, by decide +kernel, by decide +kernel⟩
def fX9_score_14 (S : MS) (a1 : Int32) (s1 : Int32) : Option (Int32 × MS) :=
  (fX9_fails S s1).bind fun q1 => (if q1.1 = false then (fX9_scoreOf q1.2 a1).bind fun q3 => some (q3, q1.2) else some ((0 : Int32), q1.2))
set_option maxHeartbeats 4000000 in
set_option maxRecDepth 100000 in
theorem wkX9_score_14 {l : Launch} {g : xG} {x0 : xV} {mo sz : Nat} (hl : l.stackTraces = false) {r : Int32 × MS} (S : MS) (a1 : Int32) (s1 : Int32) (hf : fX9_score_14 S a1 s1 = some r) : AW MX9_score rmX9_score l g x0 (.inl (some (.int r.1))) (moE g mo sz r.2) 0 0 (moE g mo sz S) 14 [(0, .ref mo), (1, .int a1)] [.int s1, .ref mo] := by
  rw [fX9_score_14] at hf
  obtain ⟨q1, hq1, hf⟩ := xbind hf
  refine aw_callV 7 (some mo) [.int s1] 1 rfl mo_ob rfl rfl (ctX9_fails hl _ _ hq1) ⟨wl5 (i := 16) rfl rfl, ciX9_fails⟩ (wl5 (i := 18) rfl rfl) (wl0 (i := 19) rfl rfl) dX9_score_14 rfl rfl (Nat.le_of_ble_eq_true rfl) ⟨Nat.le_of_ble_eq_true rfl, Nat.le_of_ble_eq_true rfl⟩ ⟨Nat.le_of_ble_eq_true rfl, Nat.le_of_ble_eq_true rfl⟩ ?_
  refine aw_ifb_eq 24 dX9_score_17 (by decide) (fun c2 => ?_) (fun c2 => ?_)
  · rw [if_pos c2] at hf
    refine aw_aload_n 0 dX9_score_24 rfl ?_
    refine aw_iload_n 1 dX9_score_25 rfl ?_
    obtain ⟨q3, hq3, hf⟩ := xbind hf
    refine aw_callV 7 (some mo) [.int a1] 1 rfl mo_ob rfl rfl (ctX9_scoreOf hl _ _ hq3) ⟨wl5 (i := 128) rfl rfl, ciX9_scoreOf⟩ (wl5 (i := 130) rfl rfl) (wl0 (i := 36) rfl rfl) dX9_score_26 rfl rfl (Nat.le_of_ble_eq_true rfl) ⟨Nat.le_of_ble_eq_true rfl, Nat.le_of_ble_eq_true rfl⟩ ⟨Nat.le_of_ble_eq_true rfl, Nat.le_of_ble_eq_true rfl⟩ ?_
    cases hf
    exact aw_iret dX9_score_29 rfl rfl rfl ⟨Nat.le_of_ble_eq_true rfl, Nat.le_of_ble_eq_true rfl⟩
  · rw [if_neg c2] at hf
    refine aw_iconst (0 : Int32) dX9_score_20 (by decide) ?_
    refine aw_goto 29 dX9_score_21 (by decide) ?_
    cases hf
    exact aw_iret dX9_score_29 rfl rfl rfl ⟨Nat.le_of_ble_eq_true rfl, Nat.le_of_ble_eq_true rfl⟩
def fX9_score (S : MS) (a1 : Int32) : Option (Int32 × MS) :=
  (fX9_isGame S a1).bind fun q1 => (if q1 = false then fX9_score_14 S a1 (1 : Int32) else fX9_score_14 S a1 (0 : Int32))
set_option maxHeartbeats 4000000 in
set_option maxRecDepth 100000 in
theorem ctX9_score {l : Launch} {g : xG} {mo sz : Nat} (hl : l.stackTraces = false) {r : Int32 × MS} (S : MS) (a1 : Int32) (hf : fX9_score S a1 = some r) : CT yX9_score MX9_score rmX9_score l g [.ref mo, .int a1] (moE g mo sz S) (.inl (some (.int r.1))) (moE g mo sz r.2) := by
  rw [fX9_score] at hf
  refine CT.of (lv0 := [(0, .ref mo), (1, .int a1)]) (by decide +kernel) rfl rfl (Nat.le_of_ble_eq_true rfl) rfl hl ?_
  refine aw_aload_n 0 dX9_score_0 rfl ?_
  refine aw_aload_n 0 dX9_score_1 rfl ?_
  refine aw_iload_n 1 dX9_score_2 rfl ?_
  obtain ⟨q1, hq1, hf⟩ := xbind hf
  refine aw_callV 7 (some mo) [.int a1] 1 rfl mo_ob rfl rfl (ctX9_isGame hl _ _ hq1) ⟨wl5 (i := 62) rfl rfl, ciX9_isGame⟩ (wl5 (i := 64) rfl rfl) (wl0 (i := 26) rfl rfl) dX9_score_3 rfl rfl (Nat.le_of_ble_eq_true rfl) ⟨Nat.le_of_ble_eq_true rfl, Nat.le_of_ble_eq_true rfl⟩ ⟨Nat.le_of_ble_eq_true rfl, Nat.le_of_ble_eq_true rfl⟩ ?_
  refine aw_ifb_eq 13 dX9_score_6 (by decide) (fun c2 => ?_) (fun c2 => ?_)
  · rw [if_pos c2] at hf
    refine aw_iconst (1 : Int32) dX9_score_13 (by decide) ?_
    refine aw_lv [0, 1] rfl ?_
    exact wkX9_score_14 hl _ _ _ hf
  · rw [if_neg c2] at hf
    refine aw_iconst (0 : Int32) dX9_score_9 (by decide) ?_
    refine aw_goto 14 dX9_score_10 (by decide) ?_
    refine aw_lv [0, 1] rfl ?_
    exact wkX9_score_14 hl _ _ _ hf
abbrev MX9_settle : xM := (RX9, cX9_settle, 4, (some .int), "settle")
abbrev rmX9_settle : Room := { frames := 6, cells := 0, slots := 0, locals := 132 }
theorem ciX9_settle : Cond.code yX9_settle cX9_settle 4 (some .int) ∈ wt ∧ Cond.initialized yX9_settle.cls ∈ wt ∧ (yX9_settle.cls ≠ "java/lang/invoke/MethodHandle" ∧ yX9_settle.cls ≠ "java/lang/invoke/VarHandle" ∧ (parseMethodDescriptor yX9_settle.desc).map (fun d => d.parameters.length) = some 0) := ⟨wl5 (i := 202) rfl rfl, wl1 (i := 4) rfl rfl, by decide +kernel, by decide +kernel, by decide +kernel⟩
def fX9_settle_75 (k12 : MS → Int32 → Int32 → Option (Int32 × MS)) (S : MS) (a1 : Int32) : Option (Int32 × MS) :=
  (fX9_finds S (m_i S 19)).bind fun q1 => (fX9_off q1).bind fun q2 => k12 q2.2 (a1 + (1 : Int32)) q2.1
set_option maxHeartbeats 4000000 in
set_option maxRecDepth 100000 in
theorem wkX9_settle_75 {l : Launch} {g : xG} {x0 : xV} {mo sz : Nat} (hl : l.stackTraces = false) {r : Int32 × MS} (k12 : MS → Int32 → Int32 → Option (Int32 × MS)) (hk12 : ∀ (S : MS) (a1 : Int32) (a2 : Int32), k12 S a1 a2 = some r → AW MX9_settle rmX9_settle l g x0 (.inl (some (.int r.1))) (moE g mo sz r.2) 0 0 (moE g mo sz S) 12 [(0, .ref mo), (1, .int a1), (2, .int a2)] []) (S : MS) (a1 : Int32) (hf : fX9_settle_75 k12 S a1 = some r) : AW MX9_settle rmX9_settle l g x0 (.inl (some (.int r.1))) (moE g mo sz r.2) 0 0 (moE g mo sz S) 75 [(0, .ref mo), (1, .int a1)] [] := by
  rw [fX9_settle_75] at hf
  refine aw_aload_n 0 dX9_settle_75 rfl ?_
  refine aw_aload_n 0 dX9_settle_76 rfl ?_
  refine mo_getI 19 rfl (by decide) (wl4 (i := 117) rfl rfl) dX9_settle_77 ?_
  obtain ⟨q1, hq1, hf⟩ := xbind hf
  refine aw_callV 7 (some mo) [.int (m_i S 19)] 1 rfl mo_ob rfl rfl (ctX9_finds hl _ _ hq1) ⟨wl5 (i := 179) rfl rfl, ciX9_finds⟩ (wl5 (i := 181) rfl rfl) (wl0 (i := 39) rfl rfl) dX9_settle_80 rfl rfl (Nat.le_of_ble_eq_true rfl) ⟨Nat.le_of_ble_eq_true rfl, Nat.le_of_ble_eq_true rfl⟩ ⟨Nat.le_of_ble_eq_true rfl, Nat.le_of_ble_eq_true rfl⟩ ?_
  refine aw_iinc [(1, .int (a1 + (1 : Int32))), (0, .ref mo)] 1 dX9_settle_83 rfl rfl (by decide) rfl ?_
  refine aw_aload_n 1 dX9_settle_86 rfl ?_
  obtain ⟨q2, hq2, hf⟩ := xbind hf
  refine aw_callV 7 (some mo) [] 0 rfl mo_ob rfl rfl (ctX9_off hl _ hq2) ⟨wl5 (i := 183) rfl rfl, ciX9_off⟩ (wl5 (i := 185) rfl rfl) (wl0 (i := 40) rfl rfl) dX9_settle_87 rfl rfl (Nat.le_of_ble_eq_true rfl) ⟨Nat.le_of_ble_eq_true rfl, Nat.le_of_ble_eq_true rfl⟩ ⟨Nat.le_of_ble_eq_true rfl, Nat.le_of_ble_eq_true rfl⟩ ?_
  refine aw_istore_n [(2, .int q2.1), (1, .int (a1 + (1 : Int32))), (0, .ref mo)] dX9_settle_90 rfl (by decide) rfl ?_
  refine aw_goto 12 dX9_settle_91 (by decide) ?_
  refine aw_lv [2, 1, 0] rfl ?_
  exact hk12 _ _ _ hf
def fX9_settle_18 (k12 : MS → Int32 → Int32 → Option (Int32 × MS)) : Nat → MS → Int32 → Int32 → Int32 → Option (Int32 × MS)
  | 0, _, _, _, _ => none
  | n + 1, S, a1, a2, a3 =>
    (if ((x_ishr a2 a3) &&& (1 : Int32)) = 0 then fX9_settle_18 k12 n S a1 a2 (a3 + (1 : Int32)) else (if xin a3 16 = true then (if (m_I (ms_I S 9 a3.toNatClampNeg (1 : Int32)) 8 a3.toNatClampNeg) = 0 then (some (ms_I (ms_I S 9 a3.toNatClampNeg (1 : Int32)) 8 a3.toNatClampNeg (2 : Int32))).bind fun W4 => (if xin (m_i W4 19) 16 = true then (some (ms_i (ms_I W4 17 (m_i W4 19).toNatClampNeg a3) 19 ((m_i (ms_I W4 17 (m_i W4 19).toNatClampNeg a3) 19) + (1 : Int32)))).bind fun W6 => fX9_settle_75 k12 W6 a1 else none) else fX9_settle_75 k12 (ms_I S 9 a3.toNatClampNeg (1 : Int32)) a1) else none))
set_option maxHeartbeats 4000000 in
set_option maxRecDepth 100000 in
theorem wkX9_settle_18 {l : Launch} {g : xG} {x0 : xV} {mo sz : Nat} (hl : l.stackTraces = false) {r : Int32 × MS} (k12 : MS → Int32 → Int32 → Option (Int32 × MS)) (hk12 : ∀ (S : MS) (a1 : Int32) (a2 : Int32), k12 S a1 a2 = some r → AW MX9_settle rmX9_settle l g x0 (.inl (some (.int r.1))) (moE g mo sz r.2) 0 0 (moE g mo sz S) 12 [(0, .ref mo), (1, .int a1), (2, .int a2)] []) : ∀ (n : Nat) (S : MS) (a1 : Int32) (a2 : Int32) (a3 : Int32), fX9_settle_18 k12 n S a1 a2 a3 = some r → AW MX9_settle rmX9_settle l g x0 (.inl (some (.int r.1))) (moE g mo sz r.2) 0 0 (moE g mo sz S) 18 [(0, .ref mo), (1, .int a1), (2, .int a2), (3, .int a3)] [] := by
  intro n
  induction n with
  | zero => intro S a1 a2 a3 hf; exact absurd hf (by simp [fX9_settle_18])
  | succ n hk18 =>
    intro S a1 a2 a3 hf
    rw [fX9_settle_18] at hf
    refine aw_iload_n 2 dX9_settle_18 rfl ?_
    refine aw_iload_n 3 dX9_settle_19 rfl ?_
    refine aw_ishr dX9_settle_20 ?_
    refine aw_iconst (1 : Int32) dX9_settle_21 (by decide) ?_
    refine aw_iand dX9_settle_22 ?_
    refine aw_if_ne 32 dX9_settle_23 (by decide) (fun c1 => ?_) (fun c1 => ?_)
    · rw [if_neg c1] at hf
      refine aw_aload_n 0 dX9_settle_32 rfl ?_
      refine mo_getR 11 9 rfl (by decide) (wl4 (i := 109) rfl rfl) dX9_settle_33 ?_
      refine aw_iload_n 3 dX9_settle_36 rfl ?_
      refine aw_iconst (1 : Int32) dX9_settle_37 (by decide) ?_
      obtain ⟨hi2, hf⟩ := xifn hf
      refine mo_zast 9 16 rfl rfl (xin_v hi2) dX9_settle_38 ?_
      refine aw_aload_n 0 dX9_settle_39 rfl ?_
      refine mo_getR 10 8 rfl (by decide) (wl4 (i := 108) rfl rfl) dX9_settle_40 ?_
      refine aw_iload_n 3 dX9_settle_43 rfl ?_
      refine mo_iald 8 16 rfl (xin_v hi2) dX9_settle_44 ?_
      refine aw_if_ne 75 dX9_settle_45 (by decide) (fun c3 => ?_) (fun c3 => ?_)
      · rw [if_neg c3] at hf
        refine aw_lv [0, 1] rfl ?_
        exact wkX9_settle_75 hl _ hk12 _ _ hf
      · rw [if_pos c3] at hf
        refine aw_aload_n 0 dX9_settle_48 rfl ?_
        refine mo_getR 10 8 rfl (by decide) (wl4 (i := 108) rfl rfl) dX9_settle_49 ?_
        refine aw_iload_n 3 dX9_settle_52 rfl ?_
        refine aw_iconst (2 : Int32) dX9_settle_53 (by decide) ?_
        obtain ⟨W4, hW4, hf⟩ := xlet hf
        refine mo_iast 8 16 rfl (xin_v hi2) dX9_settle_54 ?_
        rw [hW4]
        refine aw_aload_n 0 dX9_settle_55 rfl ?_
        refine mo_getR 20 17 rfl (by decide) (wl4 (i := 118) rfl rfl) dX9_settle_56 ?_
        refine aw_aload_n 0 dX9_settle_59 rfl ?_
        refine mo_getI 19 rfl (by decide) (wl4 (i := 117) rfl rfl) dX9_settle_60 ?_
        refine aw_iload_n 3 dX9_settle_63 rfl ?_
        obtain ⟨hi5, hf⟩ := xifn hf
        refine mo_iast 17 16 rfl (xin_v hi5) dX9_settle_64 ?_
        refine aw_aload_n 0 dX9_settle_65 rfl ?_
        refine aw_dup dX9_settle_66 rfl ?_
        refine mo_getI 19 rfl (by decide) (wl4 (i := 117) rfl rfl) dX9_settle_67 ?_
        refine aw_iconst (1 : Int32) dX9_settle_70 (by decide) ?_
        refine aw_iadd dX9_settle_71 ?_
        obtain ⟨W6, hW6, hf⟩ := xlet hf
        refine mo_putI 19 rfl (by decide) rfl rfl rfl rfl (wl4 (i := 117) rfl rfl) dX9_settle_72 ?_
        rw [hW6]
        refine aw_lv [0, 1] rfl ?_
        exact wkX9_settle_75 hl _ hk12 _ _ hf
    · rw [if_pos c1] at hf
      refine aw_iinc [(3, .int (a3 + (1 : Int32))), (0, .ref mo), (1, .int a1), (2, .int a2)] 3 dX9_settle_26 rfl rfl (by decide) rfl ?_
      refine aw_goto 18 dX9_settle_29 (by decide) ?_
      refine aw_lv [1, 2, 3, 0] rfl ?_
      exact hk18 _ _ _ _ hf
def fX9_settle_12 : Nat → MS → Int32 → Int32 → Option (Int32 × MS)
  | 0, _, _, _ => none
  | n + 1, S, a1, a2 =>
    (if a2 = 0 then some (a1, S) else fX9_settle_18 (fX9_settle_12 n) FU S a1 a2 (0 : Int32))
set_option maxHeartbeats 4000000 in
set_option maxRecDepth 100000 in
theorem wkX9_settle_12 {l : Launch} {g : xG} {x0 : xV} {mo sz : Nat} (hl : l.stackTraces = false) {r : Int32 × MS} : ∀ (n : Nat) (S : MS) (a1 : Int32) (a2 : Int32), fX9_settle_12 n S a1 a2 = some r → AW MX9_settle rmX9_settle l g x0 (.inl (some (.int r.1))) (moE g mo sz r.2) 0 0 (moE g mo sz S) 12 [(0, .ref mo), (1, .int a1), (2, .int a2)] [] := by
  intro n
  induction n with
  | zero => intro S a1 a2 hf; exact absurd hf (by simp [fX9_settle_12])
  | succ n hk12 =>
    intro S a1 a2 hf
    rw [fX9_settle_12] at hf
    refine aw_iload_n 2 dX9_settle_12 rfl ?_
    refine aw_if_eq 94 dX9_settle_13 (by decide) (fun c1 => ?_) (fun c1 => ?_)
    · rw [if_pos c1] at hf
      refine aw_iload_n 1 dX9_settle_94 rfl ?_
      cases hf
      exact aw_iret dX9_settle_95 rfl rfl rfl ⟨Nat.le_of_ble_eq_true rfl, Nat.le_of_ble_eq_true rfl⟩
    · rw [if_neg c1] at hf
      refine aw_iconst (0 : Int32) dX9_settle_16 (by decide) ?_
      refine aw_istore_n [(3, .int (0 : Int32)), (0, .ref mo), (1, .int a1), (2, .int a2)] dX9_settle_17 rfl (by decide) rfl ?_
      refine aw_lv [1, 2, 3, 0] rfl ?_
      exact wkX9_settle_18 hl _ hk12 _ _ _ _ _ hf
def fX9_settle (S : MS) : Option (Int32 × MS) :=
  (fX9_off (ms_i S 47 (0 : Int32))).bind fun q1 => fX9_settle_12 FU q1.2 (0 : Int32) q1.1
set_option maxHeartbeats 4000000 in
set_option maxRecDepth 100000 in
theorem ctX9_settle {l : Launch} {g : xG} {mo sz : Nat} (hl : l.stackTraces = false) {r : Int32 × MS} (S : MS) (hf : fX9_settle S = some r) : CT yX9_settle MX9_settle rmX9_settle l g [.ref mo] (moE g mo sz S) (.inl (some (.int r.1))) (moE g mo sz r.2) := by
  rw [fX9_settle] at hf
  refine CT.of (lv0 := [(0, .ref mo)]) (by decide +kernel) rfl rfl (Nat.le_of_ble_eq_true rfl) rfl hl ?_
  refine aw_aload_n 0 dX9_settle_0 rfl ?_
  refine aw_iconst (0 : Int32) dX9_settle_1 (by decide) ?_
  refine mo_putI 47 rfl (by decide) rfl rfl rfl rfl (wl4 (i := 145) rfl rfl) dX9_settle_2 ?_
  refine aw_iconst (0 : Int32) dX9_settle_5 (by decide) ?_
  refine aw_istore_n [(1, .int (0 : Int32)), (0, .ref mo)] dX9_settle_6 rfl (by decide) rfl ?_
  refine aw_aload_n 1 dX9_settle_7 rfl ?_
  obtain ⟨q1, hq1, hf⟩ := xbind hf
  refine aw_callV 7 (some mo) [] 0 rfl mo_ob rfl rfl (ctX9_off hl _ hq1) ⟨wl5 (i := 183) rfl rfl, ciX9_off⟩ (wl5 (i := 185) rfl rfl) (wl0 (i := 40) rfl rfl) dX9_settle_8 rfl rfl (Nat.le_of_ble_eq_true rfl) ⟨Nat.le_of_ble_eq_true rfl, Nat.le_of_ble_eq_true rfl⟩ ⟨Nat.le_of_ble_eq_true rfl, Nat.le_of_ble_eq_true rfl⟩ ?_
  refine aw_istore_n [(2, .int q1.1), (1, .int (0 : Int32)), (0, .ref mo)] dX9_settle_11 rfl (by decide) rfl ?_
  refine aw_lv [2, 1, 0] rfl ?_
  exact wkX9_settle_12 hl _ _ _ _ hf
abbrev MX9_sign : xM := (RX9, cX9_sign, 3, (some .char), "sign")
abbrev rmX9_sign : Room := { frames := 2, cells := 0, slots := 0, locals := 43 }
theorem ciX9_sign : Cond.code yX9_sign cX9_sign 3 (some .char) ∈ wt ∧ Cond.initialized yX9_sign.cls ∈ wt ∧ (yX9_sign.cls ≠ "java/lang/invoke/MethodHandle" ∧ yX9_sign.cls ≠ "java/lang/invoke/VarHandle" ∧ (parseMethodDescriptor yX9_sign.desc).map (fun d => d.parameters.length) = some 2) := ⟨wl5 (i := 151) rfl rfl, wl1 (i := 4) rfl rfl, by decide +kernel, by decide +kernel, by decide +kernel⟩
def fX9_sign_21 (S : MS) (a1 : Int32) (a2 : Int32) (s1 : Int32) : Option (Int32 × MS) :=
  (fX9_fails S s1).bind fun q1 => (if q1.1 = false then (if xin a1 16 = true then (if xin (m_I q1.2 11 a1.toNatClampNeg) 4096 = true then (fX9_bit a2).bind fun q5 => (if ((m_J q1.2 18 (m_I q1.2 11 a1.toNatClampNeg).toNatClampNeg) &&& q5) = (0 : Int64) then (fX9_bit a2).bind fun q7 => (if ((m_J q1.2 19 (m_I q1.2 11 a1.toNatClampNeg).toNatClampNeg) &&& q7) = (0 : Int64) then (xchar (46 : Int32)).bind fun b9 => some (b9, q1.2) else (xchar (79 : Int32)).bind fun b10 => some (b10, q1.2)) else (xchar (88 : Int32)).bind fun b11 => some (b11, q1.2)) else none) else none) else (xchar (32 : Int32)).bind fun b12 => some (b12, q1.2))
set_option maxHeartbeats 4000000 in
set_option maxRecDepth 100000 in
theorem wkX9_sign_21 {l : Launch} {g : xG} {x0 : xV} {mo sz : Nat} (hl : l.stackTraces = false) {r : Int32 × MS} (S : MS) (a1 : Int32) (a2 : Int32) (s1 : Int32) (hf : fX9_sign_21 S a1 a2 s1 = some r) : AW MX9_sign rmX9_sign l g x0 (.inl (some (.int r.1))) (moE g mo sz r.2) 0 0 (moE g mo sz S) 21 [(0, .ref mo), (1, .int a1), (2, .int a2)] [.int s1, .ref mo] := by
  rw [fX9_sign_21] at hf
  obtain ⟨q1, hq1, hf⟩ := xbind hf
  refine aw_callV 7 (some mo) [.int s1] 1 rfl mo_ob rfl rfl (ctX9_fails hl _ _ hq1) ⟨wl5 (i := 16) rfl rfl, ciX9_fails⟩ (wl5 (i := 18) rfl rfl) (wl0 (i := 19) rfl rfl) dX9_sign_21 rfl rfl (Nat.le_of_ble_eq_true rfl) ⟨Nat.le_of_ble_eq_true rfl, Nat.le_of_ble_eq_true rfl⟩ ⟨Nat.le_of_ble_eq_true rfl, Nat.le_of_ble_eq_true rfl⟩ ?_
  refine aw_ifb_eq 30 dX9_sign_24 (by decide) (fun c2 => ?_) (fun c2 => ?_)
  · rw [if_pos c2] at hf
    refine aw_aload_n 0 dX9_sign_30 rfl ?_
    refine mo_getR 22 18 rfl (by decide) (wl4 (i := 120) rfl rfl) dX9_sign_31 ?_
    refine aw_aload_n 0 dX9_sign_34 rfl ?_
    refine mo_getR 13 11 rfl (by decide) (wl4 (i := 111) rfl rfl) dX9_sign_35 ?_
    refine aw_iload_n 1 dX9_sign_38 rfl ?_
    obtain ⟨hi3, hf⟩ := xifn hf
    refine mo_iald 11 16 rfl (xin_v hi3) dX9_sign_39 ?_
    obtain ⟨hi4, hf⟩ := xifn hf
    refine mo_lald 18 4096 rfl (xin_v hi4) dX9_sign_40 ?_
    refine aw_iload_n 2 dX9_sign_41 rfl ?_
    obtain ⟨q5, hq5, hf⟩ := xbind hf
    refine aw_callS [.int a2] 1 (ctX9_bit hl _ hq5) ⟨wl5 (i := 51) rfl rfl, ciX9_bit⟩ (wl5 (i := 52) rfl rfl) dX9_sign_42 rfl rfl (Nat.le_of_ble_eq_true rfl) ⟨Nat.le_of_ble_eq_true rfl, Nat.le_of_ble_eq_true rfl⟩ ⟨Nat.le_of_ble_eq_true rfl, Nat.le_of_ble_eq_true rfl⟩ ?_
    refine aw_land dX9_sign_45 ?_
    refine aw_lconst (0 : Int64) dX9_sign_46 (by decide) ?_
    refine aw_lcmp_eq 56 dX9_sign_47 dX9_sign_48 (by decide) (fun c6 => ?_) (fun c6 => ?_)
    · rw [if_pos c6] at hf
      refine aw_aload_n 0 dX9_sign_56 rfl ?_
      refine mo_getR 23 19 rfl (by decide) (wl4 (i := 121) rfl rfl) dX9_sign_57 ?_
      refine aw_aload_n 0 dX9_sign_60 rfl ?_
      refine mo_getR 13 11 rfl (by decide) (wl4 (i := 111) rfl rfl) dX9_sign_61 ?_
      refine aw_iload_n 1 dX9_sign_64 rfl ?_
      refine mo_iald 11 16 rfl (xin_v hi3) dX9_sign_65 ?_
      refine mo_lald 19 4096 rfl (xin_v hi4) dX9_sign_66 ?_
      refine aw_iload_n 2 dX9_sign_67 rfl ?_
      obtain ⟨q7, hq7, hf⟩ := xbind hf
      refine aw_callS [.int a2] 1 (ctX9_bit hl _ hq7) ⟨wl5 (i := 51) rfl rfl, ciX9_bit⟩ (wl5 (i := 52) rfl rfl) dX9_sign_68 rfl rfl (Nat.le_of_ble_eq_true rfl) ⟨Nat.le_of_ble_eq_true rfl, Nat.le_of_ble_eq_true rfl⟩ ⟨Nat.le_of_ble_eq_true rfl, Nat.le_of_ble_eq_true rfl⟩ ?_
      refine aw_land dX9_sign_71 ?_
      refine aw_lconst (0 : Int64) dX9_sign_72 (by decide) ?_
      refine aw_lcmp_eq 82 dX9_sign_73 dX9_sign_74 (by decide) (fun c8 => ?_) (fun c8 => ?_)
      · rw [if_pos c8] at hf
        refine aw_bipush (46 : Int32) dX9_sign_82 (by decide) ?_
        obtain ⟨b9, hb9, hf⟩ := xbind hf
        cases hf
        exact aw_cretb dX9_sign_84 rfl hb9 rfl rfl ⟨Nat.le_of_ble_eq_true rfl, Nat.le_of_ble_eq_true rfl⟩
      · rw [if_neg c8] at hf
        refine aw_bipush (79 : Int32) dX9_sign_77 (by decide) ?_
        refine aw_goto 84 dX9_sign_79 (by decide) ?_
        obtain ⟨b10, hb10, hf⟩ := xbind hf
        cases hf
        exact aw_cretb dX9_sign_84 rfl hb10 rfl rfl ⟨Nat.le_of_ble_eq_true rfl, Nat.le_of_ble_eq_true rfl⟩
    · rw [if_neg c6] at hf
      refine aw_bipush (88 : Int32) dX9_sign_51 (by decide) ?_
      refine aw_goto 84 dX9_sign_53 (by decide) ?_
      obtain ⟨b11, hb11, hf⟩ := xbind hf
      cases hf
      exact aw_cretb dX9_sign_84 rfl hb11 rfl rfl ⟨Nat.le_of_ble_eq_true rfl, Nat.le_of_ble_eq_true rfl⟩
  · rw [if_neg c2] at hf
    refine aw_bipush (32 : Int32) dX9_sign_27 (by decide) ?_
    obtain ⟨b12, hb12, hf⟩ := xbind hf
    cases hf
    exact aw_cretb dX9_sign_29 rfl hb12 rfl rfl ⟨Nat.le_of_ble_eq_true rfl, Nat.le_of_ble_eq_true rfl⟩
def fX9_sign (S : MS) (a1 : Int32) (a2 : Int32) : Option (Int32 × MS) :=
  (fX9_isGame S a1).bind fun q1 => (if q1 = false then fX9_sign_21 S a1 a2 (1 : Int32) else (fX9_isPoint a2).bind fun q3 => (if q3 = false then fX9_sign_21 S a1 a2 (1 : Int32) else fX9_sign_21 S a1 a2 (0 : Int32)))
set_option maxHeartbeats 4000000 in
set_option maxRecDepth 100000 in
theorem ctX9_sign {l : Launch} {g : xG} {mo sz : Nat} (hl : l.stackTraces = false) {r : Int32 × MS} (S : MS) (a1 : Int32) (a2 : Int32) (hf : fX9_sign S a1 a2 = some r) : CT yX9_sign MX9_sign rmX9_sign l g [.ref mo, .int a1, .int a2] (moE g mo sz S) (.inl (some (.int r.1))) (moE g mo sz r.2) := by
  rw [fX9_sign] at hf
  refine CT.of (lv0 := [(0, .ref mo), (1, .int a1), (2, .int a2)]) (by decide +kernel) rfl rfl (Nat.le_of_ble_eq_true rfl) rfl hl ?_
  refine aw_aload_n 0 dX9_sign_0 rfl ?_
  refine aw_aload_n 0 dX9_sign_1 rfl ?_
  refine aw_iload_n 1 dX9_sign_2 rfl ?_
  obtain ⟨q1, hq1, hf⟩ := xbind hf
  refine aw_callV 7 (some mo) [.int a1] 1 rfl mo_ob rfl rfl (ctX9_isGame hl _ _ hq1) ⟨wl5 (i := 62) rfl rfl, ciX9_isGame⟩ (wl5 (i := 64) rfl rfl) (wl0 (i := 26) rfl rfl) dX9_sign_3 rfl rfl (Nat.le_of_ble_eq_true rfl) ⟨Nat.le_of_ble_eq_true rfl, Nat.le_of_ble_eq_true rfl⟩ ⟨Nat.le_of_ble_eq_true rfl, Nat.le_of_ble_eq_true rfl⟩ ?_
  refine aw_ifb_eq 20 dX9_sign_6 (by decide) (fun c2 => ?_) (fun c2 => ?_)
  · rw [if_pos c2] at hf
    refine aw_iconst (1 : Int32) dX9_sign_20 (by decide) ?_
    refine aw_lv [0, 1, 2] rfl ?_
    exact wkX9_sign_21 hl _ _ _ _ hf
  · rw [if_neg c2] at hf
    refine aw_iload_n 2 dX9_sign_9 rfl ?_
    obtain ⟨q3, hq3, hf⟩ := xbind hf
    refine aw_callS [.int a2] 1 (ctX9_isPoint hl _ hq3) ⟨wl5 (i := 66) rfl rfl, ciX9_isPoint⟩ (wl5 (i := 67) rfl rfl) dX9_sign_10 rfl rfl (Nat.le_of_ble_eq_true rfl) ⟨Nat.le_of_ble_eq_true rfl, Nat.le_of_ble_eq_true rfl⟩ ⟨Nat.le_of_ble_eq_true rfl, Nat.le_of_ble_eq_true rfl⟩ ?_
    refine aw_ifb_eq 20 dX9_sign_13 (by decide) (fun c4 => ?_) (fun c4 => ?_)
    · rw [if_pos c4] at hf
      refine aw_iconst (1 : Int32) dX9_sign_20 (by decide) ?_
      refine aw_lv [0, 1, 2] rfl ?_
      exact wkX9_sign_21 hl _ _ _ _ hf
    · rw [if_neg c4] at hf
      refine aw_iconst (0 : Int32) dX9_sign_16 (by decide) ?_
      refine aw_goto 21 dX9_sign_17 (by decide) ?_
      refine aw_lv [0, 1, 2] rfl ?_
      exact wkX9_sign_21 hl _ _ _ _ hf
abbrev MX9_stateOf : xM := (RX9, cX9_stateOf, 2, (some .int), "stateOf")
abbrev rmX9_stateOf : Room := { frames := 0, cells := 0, slots := 0, locals := 0 }
theorem ciX9_stateOf : Cond.code yX9_stateOf cX9_stateOf 2 (some .int) ∈ wt ∧ Cond.initialized yX9_stateOf.cls ∈ wt ∧ (yX9_stateOf.cls ≠ "java/lang/invoke/MethodHandle" ∧ yX9_stateOf.cls ≠ "java/lang/invoke/VarHandle" ∧ (parseMethodDescriptor yX9_stateOf.desc).map (fun d => d.parameters.length) = some 1) := ⟨wl5 (i := 143) rfl rfl, wl1 (i := 4) rfl rfl, by decide +kernel, by decide +kernel, by decide +kernel⟩
def fX9_stateOf_21 (S : MS) (s0 : Int32) (s1 : Int32) : Option (Int32) :=
  some (s0 + s1)
set_option maxHeartbeats 4000000 in
set_option maxRecDepth 100000 in
theorem wkX9_stateOf_21 {l : Launch} {g : xG} {x0 : xV} {mo sz : Nat} (hl : l.stackTraces = false) {r : Int32} (S : MS) (s0 : Int32) (s1 : Int32) (hf : fX9_stateOf_21 S s0 s1 = some r) : AW MX9_stateOf rmX9_stateOf l g x0 (.inl (some (.int r))) (moE g mo sz S) 0 0 (moE g mo sz S) 21 [] [.int s1, .int s0] := by
  rw [fX9_stateOf_21] at hf
  refine aw_iadd dX9_stateOf_21 ?_
  cases hf
  exact aw_iret dX9_stateOf_22 rfl rfl rfl ⟨Nat.le_of_ble_eq_true rfl, Nat.le_of_ble_eq_true rfl⟩
def fX9_stateOf (S : MS) (a1 : Int32) : Option (Int32) :=
  (if xin a1 16 = true then (if (m_I S 9 a1.toNatClampNeg) = 0 then fX9_stateOf_21 S (m_I S 8 a1.toNatClampNeg) (0 : Int32) else fX9_stateOf_21 S (m_I S 8 a1.toNatClampNeg) (10 : Int32)) else none)
set_option maxHeartbeats 4000000 in
set_option maxRecDepth 100000 in
theorem ctX9_stateOf {l : Launch} {g : xG} {mo sz : Nat} (hl : l.stackTraces = false) {r : Int32} (S : MS) (a1 : Int32) (hf : fX9_stateOf S a1 = some r) : CT yX9_stateOf MX9_stateOf rmX9_stateOf l g [.ref mo, .int a1] (moE g mo sz S) (.inl (some (.int r))) (moE g mo sz S) := by
  rw [fX9_stateOf] at hf
  refine CT.of (lv0 := [(0, .ref mo), (1, .int a1)]) (by decide +kernel) rfl rfl (Nat.le_of_ble_eq_true rfl) rfl hl ?_
  refine aw_aload_n 0 dX9_stateOf_0 rfl ?_
  refine mo_getR 10 8 rfl (by decide) (wl4 (i := 108) rfl rfl) dX9_stateOf_1 ?_
  refine aw_iload_n 1 dX9_stateOf_4 rfl ?_
  obtain ⟨hi1, hf⟩ := xifn hf
  refine mo_iald 8 16 rfl (xin_v hi1) dX9_stateOf_5 ?_
  refine aw_aload_n 0 dX9_stateOf_6 rfl ?_
  refine mo_getR 11 9 rfl (by decide) (wl4 (i := 109) rfl rfl) dX9_stateOf_7 ?_
  refine aw_iload_n 1 dX9_stateOf_10 rfl ?_
  refine mo_zald 9 16 rfl (xin_v hi1) dX9_stateOf_11 ?_
  refine aw_if_eq 20 dX9_stateOf_12 (by decide) (fun c2 => ?_) (fun c2 => ?_)
  · rw [if_pos c2] at hf
    refine aw_iconst (0 : Int32) dX9_stateOf_20 (by decide) ?_
    refine aw_lv [] rfl ?_
    exact wkX9_stateOf_21 hl _ _ _ hf
  · rw [if_neg c2] at hf
    refine aw_bipush (10 : Int32) dX9_stateOf_15 (by decide) ?_
    refine aw_goto 21 dX9_stateOf_17 (by decide) ?_
    refine aw_lv [] rfl ?_
    exact wkX9_stateOf_21 hl _ _ _ hf
abbrev MX9_state : xM := (RX9, cX9_state, 2, (some .int), "state")
abbrev rmX9_state : Room := { frames := 2, cells := 0, slots := 0, locals := 43 }
theorem ciX9_state : Cond.code yX9_state cX9_state 2 (some .int) ∈ wt ∧ Cond.initialized yX9_state.cls ∈ wt ∧ (yX9_state.cls ≠ "java/lang/invoke/MethodHandle" ∧ yX9_state.cls ≠ "java/lang/invoke/VarHandle" ∧ (parseMethodDescriptor yX9_state.desc).map (fun d => d.parameters.length) = some 1) := ⟨wl5 (i := 139) rfl rfl, wl1 (i := 4) rfl rfl, by decide +kernel, by decide +kernel, by decide +kernel⟩
def fX9_state_14 (S : MS) (a1 : Int32) (s1 : Int32) : Option (Int32 × MS) :=
  (fX9_fails S s1).bind fun q1 => (if q1.1 = false then (fX9_stateOf q1.2 a1).bind fun q3 => some (q3, q1.2) else some ((0 : Int32), q1.2))
set_option maxHeartbeats 4000000 in
set_option maxRecDepth 100000 in
theorem wkX9_state_14 {l : Launch} {g : xG} {x0 : xV} {mo sz : Nat} (hl : l.stackTraces = false) {r : Int32 × MS} (S : MS) (a1 : Int32) (s1 : Int32) (hf : fX9_state_14 S a1 s1 = some r) : AW MX9_state rmX9_state l g x0 (.inl (some (.int r.1))) (moE g mo sz r.2) 0 0 (moE g mo sz S) 14 [(0, .ref mo), (1, .int a1)] [.int s1, .ref mo] := by
  rw [fX9_state_14] at hf
  obtain ⟨q1, hq1, hf⟩ := xbind hf
  refine aw_callV 7 (some mo) [.int s1] 1 rfl mo_ob rfl rfl (ctX9_fails hl _ _ hq1) ⟨wl5 (i := 16) rfl rfl, ciX9_fails⟩ (wl5 (i := 18) rfl rfl) (wl0 (i := 19) rfl rfl) dX9_state_14 rfl rfl (Nat.le_of_ble_eq_true rfl) ⟨Nat.le_of_ble_eq_true rfl, Nat.le_of_ble_eq_true rfl⟩ ⟨Nat.le_of_ble_eq_true rfl, Nat.le_of_ble_eq_true rfl⟩ ?_
  refine aw_ifb_eq 24 dX9_state_17 (by decide) (fun c2 => ?_) (fun c2 => ?_)
  · rw [if_pos c2] at hf
    refine aw_aload_n 0 dX9_state_24 rfl ?_
    refine aw_iload_n 1 dX9_state_25 rfl ?_
    obtain ⟨q3, hq3, hf⟩ := xbind hf
    refine aw_callV 7 (some mo) [.int a1] 1 rfl mo_ob rfl rfl (ctX9_stateOf hl _ _ hq3) ⟨wl5 (i := 140) rfl rfl, ciX9_stateOf⟩ (wl5 (i := 142) rfl rfl) (wl0 (i := 37) rfl rfl) dX9_state_26 rfl rfl (Nat.le_of_ble_eq_true rfl) ⟨Nat.le_of_ble_eq_true rfl, Nat.le_of_ble_eq_true rfl⟩ ⟨Nat.le_of_ble_eq_true rfl, Nat.le_of_ble_eq_true rfl⟩ ?_
    cases hf
    exact aw_iret dX9_state_29 rfl rfl rfl ⟨Nat.le_of_ble_eq_true rfl, Nat.le_of_ble_eq_true rfl⟩
  · rw [if_neg c2] at hf
    refine aw_iconst (0 : Int32) dX9_state_20 (by decide) ?_
    refine aw_goto 29 dX9_state_21 (by decide) ?_
    cases hf
    exact aw_iret dX9_state_29 rfl rfl rfl ⟨Nat.le_of_ble_eq_true rfl, Nat.le_of_ble_eq_true rfl⟩
def fX9_state (S : MS) (a1 : Int32) : Option (Int32 × MS) :=
  (fX9_isGame S a1).bind fun q1 => (if q1 = false then fX9_state_14 S a1 (1 : Int32) else fX9_state_14 S a1 (0 : Int32))
set_option maxHeartbeats 4000000 in
set_option maxRecDepth 100000 in
theorem ctX9_state {l : Launch} {g : xG} {mo sz : Nat} (hl : l.stackTraces = false) {r : Int32 × MS} (S : MS) (a1 : Int32) (hf : fX9_state S a1 = some r) : CT yX9_state MX9_state rmX9_state l g [.ref mo, .int a1] (moE g mo sz S) (.inl (some (.int r.1))) (moE g mo sz r.2) := by
  rw [fX9_state] at hf
  refine CT.of (lv0 := [(0, .ref mo), (1, .int a1)]) (by decide +kernel) rfl rfl (Nat.le_of_ble_eq_true rfl) rfl hl ?_
  refine aw_aload_n 0 dX9_state_0 rfl ?_
  refine aw_aload_n 0 dX9_state_1 rfl ?_
  refine aw_iload_n 1 dX9_state_2 rfl ?_
  obtain ⟨q1, hq1, hf⟩ := xbind hf
  refine aw_callV 7 (some mo) [.int a1] 1 rfl mo_ob rfl rfl (ctX9_isGame hl _ _ hq1) ⟨wl5 (i := 62) rfl rfl, ciX9_isGame⟩ (wl5 (i := 64) rfl rfl) (wl0 (i := 26) rfl rfl) dX9_state_3 rfl rfl (Nat.le_of_ble_eq_true rfl) ⟨Nat.le_of_ble_eq_true rfl, Nat.le_of_ble_eq_true rfl⟩ ⟨Nat.le_of_ble_eq_true rfl, Nat.le_of_ble_eq_true rfl⟩ ?_
  refine aw_ifb_eq 13 dX9_state_6 (by decide) (fun c2 => ?_) (fun c2 => ?_)
  · rw [if_pos c2] at hf
    refine aw_iconst (1 : Int32) dX9_state_13 (by decide) ?_
    refine aw_lv [0, 1] rfl ?_
    exact wkX9_state_14 hl _ _ _ hf
  · rw [if_neg c2] at hf
    refine aw_iconst (0 : Int32) dX9_state_9 (by decide) ?_
    refine aw_goto 14 dX9_state_10 (by decide) ?_
    refine aw_lv [0, 1] rfl ?_
    exact wkX9_state_14 hl _ _ _ hf
abbrev MX9_thrown : xM := (RX9, cX9_thrown, 1, (some .int), "thrown")
abbrev rmX9_thrown : Room := { frames := 0, cells := 0, slots := 0, locals := 0 }
theorem ciX9_thrown : Cond.code yX9_thrown cX9_thrown 1 (some .int) ∈ wt ∧ Cond.initialized yX9_thrown.cls ∈ wt ∧ (yX9_thrown.cls ≠ "java/lang/invoke/MethodHandle" ∧ yX9_thrown.cls ≠ "java/lang/invoke/VarHandle" ∧ (parseMethodDescriptor yX9_thrown.desc).map (fun d => d.parameters.length) = some 0) := ⟨wl5 (i := 8) rfl rfl, wl1 (i := 4) rfl rfl, by decide +kernel, by decide +kernel, by decide +kernel⟩
def fX9_thrown (S : MS) : Option (Int32) :=
  some (m_i S 47)
set_option maxHeartbeats 4000000 in
set_option maxRecDepth 100000 in
theorem ctX9_thrown {l : Launch} {g : xG} {mo sz : Nat} (hl : l.stackTraces = false) {r : Int32} (S : MS) (hf : fX9_thrown S = some r) : CT yX9_thrown MX9_thrown rmX9_thrown l g [.ref mo] (moE g mo sz S) (.inl (some (.int r))) (moE g mo sz S) := by
  rw [fX9_thrown] at hf
  refine CT.of (lv0 := [(0, .ref mo)]) (by decide +kernel) rfl rfl (Nat.le_of_ble_eq_true rfl) rfl hl ?_
  refine aw_aload_n 0 dX9_thrown_0 rfl ?_
  refine mo_getI 47 rfl (by decide) (wl4 (i := 145) rfl rfl) dX9_thrown_1 ?_
  cases hf
  exact aw_iret dX9_thrown_4 rfl rfl rfl ⟨Nat.le_of_ble_eq_true rfl, Nat.le_of_ble_eq_true rfl⟩
