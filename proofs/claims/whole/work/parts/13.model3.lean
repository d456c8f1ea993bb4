abbrev MX9_grows : xM := (RX9, cX9_grows, 3, none, "grows")
abbrev rmX9_grows : Room := { frames := 0, cells := 0, slots := 0, locals := 0 }
theorem ciX9_grows : Cond.code yX9_grows cX9_grows 3 none ∈ wt ∧ Cond.initialized yX9_grows.cls ∈ wt ∧ (yX9_grows.cls ≠ "java/lang/invoke/MethodHandle" ∧ yX9_grows.cls ≠ "java/lang/invoke/VarHandle" ∧ (parseMethodDescriptor yX9_grows.desc).map (fun d => d.parameters.length) = some 2) := ⟨wl5 (i := 123) rfl rfl, wl1 (i := 4) rfl rfl, by decide +kernel, by decide +kernel, by decide +kernel⟩
def fX9_grows_132 (S : MS) (a1 : Int32) (s1 : Int32) (s2 : Int32) (s3 : Int32) : Option (MS) :=
  (if xin s1 8 = true then (if xin a1 8 = true then (some (ms_I (ms_I S 1 s1.toNatClampNeg (s2 - s3)) 2 a1.toNatClampNeg (0 : Int32))).bind fun W3 => some W3 else none) else none)
set_option maxHeartbeats 4000000 in
set_option maxRecDepth 100000 in
theorem wkX9_grows_132 {l : Launch} {g : xG} {x0 : xV} {mo sz : Nat} (hl : l.stackTraces = false) {r : MS} (S : MS) (a1 : Int32) (s1 : Int32) (s2 : Int32) (s3 : Int32) (hf : fX9_grows_132 S a1 s1 s2 s3 = some r) : AW MX9_grows rmX9_grows l g x0 (.inl none) (moE g mo sz r) 0 0 (moE g mo sz S) 132 [(0, .ref mo), (1, .int a1)] [.int s3, .int s2, .int s1, .ref (mo + 1 + 1)] := by
  rw [fX9_grows_132] at hf
  refine aw_isub dX9_grows_132 ?_
  obtain ⟨hi1, hf⟩ := xifn hf
  refine mo_iast 1 8 rfl (xin_v hi1) dX9_grows_133 ?_
  refine aw_aload_n 0 dX9_grows_134 rfl ?_
  refine mo_getR 3 2 rfl (by decide) (wl4 (i := 101) rfl rfl) dX9_grows_135 ?_
  refine aw_iload_n 1 dX9_grows_138 rfl ?_
  refine aw_iconst (0 : Int32) dX9_grows_139 (by decide) ?_
  obtain ⟨hi2, hf⟩ := xifn hf
  obtain ⟨W3, hW3, hf⟩ := xlet hf
  refine mo_iast 2 8 rfl (xin_v hi2) dX9_grows_140 ?_
  rw [hW3]
  cases hf
  exact aw_vret dX9_grows_141 rfl rfl rfl ⟨Nat.le_of_ble_eq_true rfl, Nat.le_of_ble_eq_true rfl⟩
def fX9_grows_88 (S : MS) (a1 : Int32) (s1 : Int32) (s2 : Int32) (s3 : Int32) : Option (MS) :=
  (if xin s1 8 = true then (if xin a1 8 = true then (some (ms_I (ms_I S 1 s1.toNatClampNeg (s2 + s3)) 2 a1.toNatClampNeg (0 : Int32))).bind fun W3 => some W3 else none) else none)
set_option maxHeartbeats 4000000 in
set_option maxRecDepth 100000 in
theorem wkX9_grows_88 {l : Launch} {g : xG} {x0 : xV} {mo sz : Nat} (hl : l.stackTraces = false) {r : MS} (S : MS) (a1 : Int32) (s1 : Int32) (s2 : Int32) (s3 : Int32) (hf : fX9_grows_88 S a1 s1 s2 s3 = some r) : AW MX9_grows rmX9_grows l g x0 (.inl none) (moE g mo sz r) 0 0 (moE g mo sz S) 88 [(0, .ref mo), (1, .int a1)] [.int s3, .int s2, .int s1, .ref (mo + 1 + 1)] := by
  rw [fX9_grows_88] at hf
  refine aw_iadd dX9_grows_88 ?_
  obtain ⟨hi1, hf⟩ := xifn hf
  refine mo_iast 1 8 rfl (xin_v hi1) dX9_grows_89 ?_
  refine aw_aload_n 0 dX9_grows_90 rfl ?_
  refine mo_getR 3 2 rfl (by decide) (wl4 (i := 101) rfl rfl) dX9_grows_91 ?_
  refine aw_iload_n 1 dX9_grows_94 rfl ?_
  refine aw_iconst (0 : Int32) dX9_grows_95 (by decide) ?_
  obtain ⟨hi2, hf⟩ := xifn hf
  obtain ⟨W3, hW3, hf⟩ := xlet hf
  refine mo_iast 2 8 rfl (xin_v hi2) dX9_grows_96 ?_
  rw [hW3]
  refine aw_goto 141 dX9_grows_97 (by decide) ?_
  cases hf
  exact aw_vret dX9_grows_141 rfl rfl rfl ⟨Nat.le_of_ble_eq_true rfl, Nat.le_of_ble_eq_true rfl⟩
def fX9_grows_54 (S : MS) (a1 : Int32) (s1 : Int32) (s2 : Int32) : Option (MS) :=
  (if xin s1 8 = true then (if xin a1 8 = true then (if (m_I (ms_I S 2 s1.toNatClampNeg s2) 2 a1.toNatClampNeg) = (3 : Int32) then (if (20 : Int32) ≤ (m_I (ms_I S 2 s1.toNatClampNeg s2) 1 a1.toNatClampNeg) then fX9_grows_88 (ms_I S 2 s1.toNatClampNeg s2) a1 a1 (m_I (ms_I S 2 s1.toNatClampNeg s2) 1 a1.toNatClampNeg) (0 : Int32) else fX9_grows_88 (ms_I S 2 s1.toNatClampNeg s2) a1 a1 (m_I (ms_I S 2 s1.toNatClampNeg s2) 1 a1.toNatClampNeg) (1 : Int32)) else (if (m_I (ms_I S 2 s1.toNatClampNeg s2) 2 a1.toNatClampNeg) = (-3 : Int32) then (if (m_I (ms_I S 2 s1.toNatClampNeg s2) 1 a1.toNatClampNeg) ≤ 0 then fX9_grows_132 (ms_I S 2 s1.toNatClampNeg s2) a1 a1 (m_I (ms_I S 2 s1.toNatClampNeg s2) 1 a1.toNatClampNeg) (0 : Int32) else fX9_grows_132 (ms_I S 2 s1.toNatClampNeg s2) a1 a1 (m_I (ms_I S 2 s1.toNatClampNeg s2) 1 a1.toNatClampNeg) (1 : Int32)) else some (ms_I S 2 s1.toNatClampNeg s2))) else none) else none)
set_option maxHeartbeats 4000000 in
set_option maxRecDepth 100000 in
theorem wkX9_grows_54 {l : Launch} {g : xG} {x0 : xV} {mo sz : Nat} (hl : l.stackTraces = false) {r : MS} (S : MS) (a1 : Int32) (s1 : Int32) (s2 : Int32) (hf : fX9_grows_54 S a1 s1 s2 = some r) : AW MX9_grows rmX9_grows l g x0 (.inl none) (moE g mo sz r) 0 0 (moE g mo sz S) 54 [(0, .ref mo), (1, .int a1)] [.int s2, .int s1, .ref (mo + 1 + 2)] := by
  rw [fX9_grows_54] at hf
  obtain ⟨hi1, hf⟩ := xifn hf
  refine mo_iast 2 8 rfl (xin_v hi1) dX9_grows_54 ?_
  refine aw_aload_n 0 dX9_grows_55 rfl ?_
  refine mo_getR 3 2 rfl (by decide) (wl4 (i := 101) rfl rfl) dX9_grows_56 ?_
  refine aw_iload_n 1 dX9_grows_59 rfl ?_
  obtain ⟨hi2, hf⟩ := xifn hf
  refine mo_iald 2 8 rfl (xin_v hi2) dX9_grows_60 ?_
  refine aw_iconst (3 : Int32) dX9_grows_61 (by decide) ?_
  refine aw_icmp_ne 100 dX9_grows_62 (by decide) (fun c3 => ?_) (fun c3 => ?_)
  · rw [if_neg c3] at hf
    refine aw_aload_n 0 dX9_grows_100 rfl ?_
    refine mo_getR 3 2 rfl (by decide) (wl4 (i := 101) rfl rfl) dX9_grows_101 ?_
    refine aw_iload_n 1 dX9_grows_104 rfl ?_
    refine mo_iald 2 8 rfl (xin_v hi2) dX9_grows_105 ?_
    refine aw_bipush (-3 : Int32) dX9_grows_106 (by decide) ?_
    refine aw_icmp_ne 141 dX9_grows_108 (by decide) (fun c4 => ?_) (fun c4 => ?_)
    · rw [if_neg c4] at hf
      cases hf
      exact aw_vret dX9_grows_141 rfl rfl rfl ⟨Nat.le_of_ble_eq_true rfl, Nat.le_of_ble_eq_true rfl⟩
    · rw [if_pos c4] at hf
      refine aw_aload_n 0 dX9_grows_111 rfl ?_
      refine mo_getR 2 1 rfl (by decide) (wl4 (i := 100) rfl rfl) dX9_grows_112 ?_
      refine aw_iload_n 1 dX9_grows_115 rfl ?_
      refine aw_dup2 dX9_grows_116 rfl rfl ?_
      refine mo_iald 1 8 rfl (xin_v hi2) dX9_grows_117 ?_
      refine aw_aload_n 0 dX9_grows_118 rfl ?_
      refine mo_getR 2 1 rfl (by decide) (wl4 (i := 100) rfl rfl) dX9_grows_119 ?_
      refine aw_iload_n 1 dX9_grows_122 rfl ?_
      refine mo_iald 1 8 rfl (xin_v hi2) dX9_grows_123 ?_
      refine aw_if_le 131 dX9_grows_124 (by decide) (fun c5 => ?_) (fun c5 => ?_)
      · rw [if_pos c5] at hf
        refine aw_iconst (0 : Int32) dX9_grows_131 (by decide) ?_
        refine aw_lv [0, 1] rfl ?_
        exact wkX9_grows_132 hl _ _ _ _ _ hf
      · rw [if_neg c5] at hf
        refine aw_iconst (1 : Int32) dX9_grows_127 (by decide) ?_
        refine aw_goto 132 dX9_grows_128 (by decide) ?_
        refine aw_lv [0, 1] rfl ?_
        exact wkX9_grows_132 hl _ _ _ _ _ hf
  · rw [if_pos c3] at hf
    refine aw_aload_n 0 dX9_grows_65 rfl ?_
    refine mo_getR 2 1 rfl (by decide) (wl4 (i := 100) rfl rfl) dX9_grows_66 ?_
    refine aw_iload_n 1 dX9_grows_69 rfl ?_
    refine aw_dup2 dX9_grows_70 rfl rfl ?_
    refine mo_iald 1 8 rfl (xin_v hi2) dX9_grows_71 ?_
    refine aw_aload_n 0 dX9_grows_72 rfl ?_
    refine mo_getR 2 1 rfl (by decide) (wl4 (i := 100) rfl rfl) dX9_grows_73 ?_
    refine aw_iload_n 1 dX9_grows_76 rfl ?_
    refine mo_iald 1 8 rfl (xin_v hi2) dX9_grows_77 ?_
    refine aw_bipush (20 : Int32) dX9_grows_78 (by decide) ?_
    refine aw_icmp_ge 87 dX9_grows_80 (by decide) (fun c6 => ?_) (fun c6 => ?_)
    · rw [if_pos c6] at hf
      refine aw_iconst (0 : Int32) dX9_grows_87 (by decide) ?_
      refine aw_lv [0, 1] rfl ?_
      exact wkX9_grows_88 hl _ _ _ _ _ hf
    · rw [if_neg c6] at hf
      refine aw_iconst (1 : Int32) dX9_grows_83 (by decide) ?_
      refine aw_goto 88 dX9_grows_84 (by decide) ?_
      refine aw_lv [0, 1] rfl ?_
      exact wkX9_grows_88 hl _ _ _ _ _ hf
def fX9_grows (S : MS) (a1 : Int32) (a2 : Int32) : Option (MS) :=
  (if a2 = 0 then (if xin a1 8 = true then (if 0 ≤ (m_I S 2 a1.toNatClampNeg) then fX9_grows_54 S a1 a1 (-1 : Int32) else fX9_grows_54 S a1 a1 ((m_I S 2 a1.toNatClampNeg) - (1 : Int32))) else none) else (if xin a1 8 = true then (if (m_I S 2 a1.toNatClampNeg) ≤ 0 then fX9_grows_54 S a1 a1 (1 : Int32) else fX9_grows_54 S a1 a1 ((m_I S 2 a1.toNatClampNeg) + (1 : Int32))) else none))
set_option maxHeartbeats 4000000 in
set_option maxRecDepth 100000 in
theorem ctX9_grows {l : Launch} {g : xG} {mo sz : Nat} (hl : l.stackTraces = false) {r : MS} (S : MS) (a1 : Int32) (a2 : Int32) (hf : fX9_grows S a1 a2 = some r) : CT yX9_grows MX9_grows rmX9_grows l g [.ref mo, .int a1, .int a2] (moE g mo sz S) (.inl none) (moE g mo sz r) := by
  rw [fX9_grows] at hf
  refine CT.of (lv0 := [(0, .ref mo), (1, .int a1), (2, .int a2)]) (by decide +kernel) rfl rfl (Nat.le_of_ble_eq_true rfl) rfl hl ?_
  refine aw_aload_n 0 dX9_grows_0 rfl ?_
  refine mo_getR 3 2 rfl (by decide) (wl4 (i := 101) rfl rfl) dX9_grows_1 ?_
  refine aw_iload_n 1 dX9_grows_4 rfl ?_
  refine aw_iload_n 2 dX9_grows_5 rfl ?_
  refine aw_if_eq 33 dX9_grows_6 (by decide) (fun c1 => ?_) (fun c1 => ?_)
  · rw [if_pos c1] at hf
    refine aw_aload_n 0 dX9_grows_33 rfl ?_
    refine mo_getR 3 2 rfl (by decide) (wl4 (i := 101) rfl rfl) dX9_grows_34 ?_
    refine aw_iload_n 1 dX9_grows_37 rfl ?_
    obtain ⟨hi2, hf⟩ := xifn hf
    refine mo_iald 2 8 rfl (xin_v hi2) dX9_grows_38 ?_
    refine aw_if_ge 53 dX9_grows_39 (by decide) (fun c3 => ?_) (fun c3 => ?_)
    · rw [if_pos c3] at hf
      refine aw_iconst (-1 : Int32) dX9_grows_53 (by decide) ?_
      refine aw_lv [0, 1] rfl ?_
      exact wkX9_grows_54 hl _ _ _ _ hf
    · rw [if_neg c3] at hf
      refine aw_aload_n 0 dX9_grows_42 rfl ?_
      refine mo_getR 3 2 rfl (by decide) (wl4 (i := 101) rfl rfl) dX9_grows_43 ?_
      refine aw_iload_n 1 dX9_grows_46 rfl ?_
      refine mo_iald 2 8 rfl (xin_v hi2) dX9_grows_47 ?_
      refine aw_iconst (1 : Int32) dX9_grows_48 (by decide) ?_
      refine aw_isub dX9_grows_49 ?_
      refine aw_goto 54 dX9_grows_50 (by decide) ?_
      refine aw_lv [0, 1] rfl ?_
      exact wkX9_grows_54 hl _ _ _ _ hf
  · rw [if_neg c1] at hf
    refine aw_aload_n 0 dX9_grows_9 rfl ?_
    refine mo_getR 3 2 rfl (by decide) (wl4 (i := 101) rfl rfl) dX9_grows_10 ?_
    refine aw_iload_n 1 dX9_grows_13 rfl ?_
    obtain ⟨hi4, hf⟩ := xifn hf
    refine mo_iald 2 8 rfl (xin_v hi4) dX9_grows_14 ?_
    refine aw_if_le 29 dX9_grows_15 (by decide) (fun c5 => ?_) (fun c5 => ?_)
    · rw [if_pos c5] at hf
      refine aw_iconst (1 : Int32) dX9_grows_29 (by decide) ?_
      refine aw_goto 54 dX9_grows_30 (by decide) ?_
      refine aw_lv [0, 1] rfl ?_
      exact wkX9_grows_54 hl _ _ _ _ hf
    · rw [if_neg c5] at hf
      refine aw_aload_n 0 dX9_grows_18 rfl ?_
      refine mo_getR 3 2 rfl (by decide) (wl4 (i := 101) rfl rfl) dX9_grows_19 ?_
      refine aw_iload_n 1 dX9_grows_22 rfl ?_
      refine mo_iald 2 8 rfl (xin_v hi4) dX9_grows_23 ?_
      refine aw_iconst (1 : Int32) dX9_grows_24 (by decide) ?_
      refine aw_iadd dX9_grows_25 ?_
      refine aw_goto 54 dX9_grows_26 (by decide) ?_
      refine aw_lv [0, 1] rfl ?_
      exact wkX9_grows_54 hl _ _ _ _ hf
abbrev MX9_counts : xM := (RX9, cX9_counts, 2, none, "counts")
abbrev rmX9_counts : Room := { frames := 1, cells := 0, slots := 0, locals := 22 }
theorem ciX9_counts : Cond.code yX9_counts cX9_counts 2 none ∈ wt ∧ Cond.initialized yX9_counts.cls ∈ wt ∧ (yX9_counts.cls ≠ "java/lang/invoke/MethodHandle" ∧ yX9_counts.cls ≠ "java/lang/invoke/VarHandle" ∧ (parseMethodDescriptor yX9_counts.desc).map (fun d => d.parameters.length) = some 1) := ⟨wl5 (i := 119) rfl rfl, wl1 (i := 4) rfl rfl, by decide +kernel, by decide +kernel, by decide +kernel⟩
def fX9_counts_47 (S : MS) (s1 : Int32) (s2 : Int32) : Option (MS) :=
  (fX9_grows S s1 s2).bind fun q1 => some q1
set_option maxHeartbeats 4000000 in
set_option maxRecDepth 100000 in
theorem wkX9_counts_47 {l : Launch} {g : xG} {x0 : xV} {mo sz : Nat} (hl : l.stackTraces = false) {r : MS} (S : MS) (s1 : Int32) (s2 : Int32) (hf : fX9_counts_47 S s1 s2 = some r) : AW MX9_counts rmX9_counts l g x0 (.inl none) (moE g mo sz r) 0 0 (moE g mo sz S) 47 [] [.int s2, .int s1, .ref mo] := by
  rw [fX9_counts_47] at hf
  obtain ⟨q1, hq1, hf⟩ := xbind hf
  refine aw_callV 7 (some mo) [.int s1, .int s2] 2 rfl mo_ob rfl rfl (ctX9_grows hl _ _ _ hq1) ⟨wl5 (i := 120) rfl rfl, ciX9_grows⟩ (wl5 (i := 122) rfl rfl) (wl0 (i := 35) rfl rfl) dX9_counts_47 rfl rfl (Nat.le_of_ble_eq_true rfl) ⟨Nat.le_of_ble_eq_true rfl, Nat.le_of_ble_eq_true rfl⟩ ⟨Nat.le_of_ble_eq_true rfl, Nat.le_of_ble_eq_true rfl⟩ ?_
  cases hf
  exact aw_vret dX9_counts_50 rfl rfl rfl ⟨Nat.le_of_ble_eq_true rfl, Nat.le_of_ble_eq_true rfl⟩
def fX9_counts_22 (S : MS) (a1 : Int32) (s1 : Int32) (s2 : Int32) : Option (MS) :=
  (fX9_grows S s1 s2).bind fun q1 => (if xin a1 16 = true then (if (m_I q1 8 a1.toNatClampNeg) = (2 : Int32) then fX9_counts_47 q1 (m_I q1 6 a1.toNatClampNeg) (1 : Int32) else fX9_counts_47 q1 (m_I q1 6 a1.toNatClampNeg) (0 : Int32)) else none)
set_option maxHeartbeats 4000000 in
set_option maxRecDepth 100000 in
theorem wkX9_counts_22 {l : Launch} {g : xG} {x0 : xV} {mo sz : Nat} (hl : l.stackTraces = false) {r : MS} (S : MS) (a1 : Int32) (s1 : Int32) (s2 : Int32) (hf : fX9_counts_22 S a1 s1 s2 = some r) : AW MX9_counts rmX9_counts l g x0 (.inl none) (moE g mo sz r) 0 0 (moE g mo sz S) 22 [(0, .ref mo), (1, .int a1)] [.int s2, .int s1, .ref mo] := by
  rw [fX9_counts_22] at hf
  obtain ⟨q1, hq1, hf⟩ := xbind hf
  refine aw_callV 7 (some mo) [.int s1, .int s2] 2 rfl mo_ob rfl rfl (ctX9_grows hl _ _ _ hq1) ⟨wl5 (i := 120) rfl rfl, ciX9_grows⟩ (wl5 (i := 122) rfl rfl) (wl0 (i := 35) rfl rfl) dX9_counts_22 rfl rfl (Nat.le_of_ble_eq_true rfl) ⟨Nat.le_of_ble_eq_true rfl, Nat.le_of_ble_eq_true rfl⟩ ⟨Nat.le_of_ble_eq_true rfl, Nat.le_of_ble_eq_true rfl⟩ ?_
  refine aw_aload_n 0 dX9_counts_25 rfl ?_
  refine aw_aload_n 0 dX9_counts_26 rfl ?_
  refine mo_getR 8 6 rfl (by decide) (wl4 (i := 106) rfl rfl) dX9_counts_27 ?_
  refine aw_iload_n 1 dX9_counts_30 rfl ?_
  obtain ⟨hi2, hf⟩ := xifn hf
  refine mo_iald 6 16 rfl (xin_v hi2) dX9_counts_31 ?_
  refine aw_aload_n 0 dX9_counts_32 rfl ?_
  refine mo_getR 10 8 rfl (by decide) (wl4 (i := 108) rfl rfl) dX9_counts_33 ?_
  refine aw_iload_n 1 dX9_counts_36 rfl ?_
  refine mo_iald 8 16 rfl (xin_v hi2) dX9_counts_37 ?_
  refine aw_iconst (2 : Int32) dX9_counts_38 (by decide) ?_
  refine aw_icmp_ne 46 dX9_counts_39 (by decide) (fun c3 => ?_) (fun c3 => ?_)
  · rw [if_neg c3] at hf
    refine aw_iconst (0 : Int32) dX9_counts_46 (by decide) ?_
    refine aw_lv [] rfl ?_
    exact wkX9_counts_47 hl _ _ _ hf
  · rw [if_pos c3] at hf
    refine aw_iconst (1 : Int32) dX9_counts_42 (by decide) ?_
    refine aw_goto 47 dX9_counts_43 (by decide) ?_
    refine aw_lv [] rfl ?_
    exact wkX9_counts_47 hl _ _ _ hf
def fX9_counts (S : MS) (a1 : Int32) : Option (MS) :=
  (if xin a1 16 = true then (if (m_I S 8 a1.toNatClampNeg) = (1 : Int32) then fX9_counts_22 S a1 (m_I S 5 a1.toNatClampNeg) (1 : Int32) else fX9_counts_22 S a1 (m_I S 5 a1.toNatClampNeg) (0 : Int32)) else none)
set_option maxHeartbeats 4000000 in
set_option maxRecDepth 100000 in
theorem ctX9_counts {l : Launch} {g : xG} {mo sz : Nat} (hl : l.stackTraces = false) {r : MS} (S : MS) (a1 : Int32) (hf : fX9_counts S a1 = some r) : CT yX9_counts MX9_counts rmX9_counts l g [.ref mo, .int a1] (moE g mo sz S) (.inl none) (moE g mo sz r) := by
  rw [fX9_counts] at hf
  refine CT.of (lv0 := [(0, .ref mo), (1, .int a1)]) (by decide +kernel) rfl rfl (Nat.le_of_ble_eq_true rfl) rfl hl ?_
  refine aw_aload_n 0 dX9_counts_0 rfl ?_
  refine aw_aload_n 0 dX9_counts_1 rfl ?_
  refine mo_getR 7 5 rfl (by decide) (wl4 (i := 105) rfl rfl) dX9_counts_2 ?_
  refine aw_iload_n 1 dX9_counts_5 rfl ?_
  obtain ⟨hi1, hf⟩ := xifn hf
  refine mo_iald 5 16 rfl (xin_v hi1) dX9_counts_6 ?_
  refine aw_aload_n 0 dX9_counts_7 rfl ?_
  refine mo_getR 10 8 rfl (by decide) (wl4 (i := 108) rfl rfl) dX9_counts_8 ?_
  refine aw_iload_n 1 dX9_counts_11 rfl ?_
  refine mo_iald 8 16 rfl (xin_v hi1) dX9_counts_12 ?_
  refine aw_iconst (1 : Int32) dX9_counts_13 (by decide) ?_
  refine aw_icmp_ne 21 dX9_counts_14 (by decide) (fun c2 => ?_) (fun c2 => ?_)
  · rw [if_neg c2] at hf
    refine aw_iconst (0 : Int32) dX9_counts_21 (by decide) ?_
    refine aw_lv [0, 1] rfl ?_
    exact wkX9_counts_22 hl _ _ _ _ hf
  · rw [if_pos c2] at hf
    refine aw_iconst (1 : Int32) dX9_counts_17 (by decide) ?_
    refine aw_goto 22 dX9_counts_18 (by decide) ?_
    refine aw_lv [0, 1] rfl ?_
    exact wkX9_counts_22 hl _ _ _ _ hf
abbrev MX9_finds : xM := (RX9, cX9_finds, 3, none, "finds")
abbrev rmX9_finds : Room := { frames := 2, cells := 0, slots := 0, locals := 43 }
theorem ciX9_finds : Cond.code yX9_finds cX9_finds 3 none ∈ wt ∧ Cond.initialized yX9_finds.cls ∈ wt ∧ (yX9_finds.cls ≠ "java/lang/invoke/MethodHandle" ∧ yX9_finds.cls ≠ "java/lang/invoke/VarHandle" ∧ (parseMethodDescriptor yX9_finds.desc).map (fun d => d.parameters.length) = some 1) := ⟨wl5 (i := 182) rfl rfl, wl1 (i := 4) rfl rfl, by decide +kernel, by decide +kernel, by decide +kernel⟩
def fX9_finds_66 (k37 : MS → Int32 → Int32 → Option (MS)) (S : MS) (a1 : Int32) (a2 : Int32) : Option (MS) :=
  k37 S a1 (a2 + (1 : Int32))
set_option maxHeartbeats 4000000 in
set_option maxRecDepth 100000 in
theorem wkX9_finds_66 {l : Launch} {g : xG} {x0 : xV} {mo sz : Nat} (hl : l.stackTraces = false) {r : MS} (k37 : MS → Int32 → Int32 → Option (MS)) (hk37 : ∀ (S : MS) (a1 : Int32) (a2 : Int32), k37 S a1 a2 = some r → AW MX9_finds rmX9_finds l g x0 (.inl none) (moE g mo sz r) 0 0 (moE g mo sz S) 37 [(0, .ref mo), (1, .int a1), (2, .int a2)] []) (S : MS) (a1 : Int32) (a2 : Int32) (hf : fX9_finds_66 k37 S a1 a2 = some r) : AW MX9_finds rmX9_finds l g x0 (.inl none) (moE g mo sz r) 0 0 (moE g mo sz S) 66 [(0, .ref mo), (1, .int a1), (2, .int a2)] [] := by
  rw [fX9_finds_66] at hf
  refine aw_iinc [(2, .int (a2 + (1 : Int32))), (0, .ref mo), (1, .int a1)] 2 dX9_finds_66 rfl rfl (by decide) rfl ?_
  refine aw_goto 37 dX9_finds_69 (by decide) ?_
  refine aw_lv [1, 2, 0] rfl ?_
  exact hk37 _ _ _ hf
def fX9_finds_37 : Nat → MS → Int32 → Int32 → Option (MS)
  | 0, _, _, _ => none
  | n + 1, S, a1, a2 =>
    (if a1 ≤ a2 then some S else (if xin a2 16 = true then (if xin (m_I S 17 a2.toNatClampNeg) 16 = true then (if (m_I S 9 (m_I S 17 a2.toNatClampNeg).toNatClampNeg) = 0 then (fX9_counts S (m_I S 17 a2.toNatClampNeg)).bind fun q5 => fX9_finds_66 (fX9_finds_37 n) q5 a1 a2 else fX9_finds_66 (fX9_finds_37 n) S a1 a2) else none) else none))
set_option maxHeartbeats 4000000 in
set_option maxRecDepth 100000 in
theorem wkX9_finds_37 {l : Launch} {g : xG} {x0 : xV} {mo sz : Nat} (hl : l.stackTraces = false) {r : MS} : ∀ (n : Nat) (S : MS) (a1 : Int32) (a2 : Int32), fX9_finds_37 n S a1 a2 = some r → AW MX9_finds rmX9_finds l g x0 (.inl none) (moE g mo sz r) 0 0 (moE g mo sz S) 37 [(0, .ref mo), (1, .int a1), (2, .int a2)] [] := by
  intro n
  induction n with
  | zero => intro S a1 a2 hf; exact absurd hf (by simp [fX9_finds_37])
  | succ n hk37 =>
    intro S a1 a2 hf
    rw [fX9_finds_37] at hf
    refine aw_iload_n 2 dX9_finds_37 rfl ?_
    refine aw_iload_n 1 dX9_finds_38 rfl ?_
    refine aw_icmp_ge 72 dX9_finds_39 (by decide) (fun c1 => ?_) (fun c1 => ?_)
    · rw [if_pos c1] at hf
      cases hf
      exact aw_vret dX9_finds_72 rfl rfl rfl ⟨Nat.le_of_ble_eq_true rfl, Nat.le_of_ble_eq_true rfl⟩
    · rw [if_neg c1] at hf
      refine aw_aload_n 0 dX9_finds_42 rfl ?_
      refine mo_getR 11 9 rfl (by decide) (wl4 (i := 109) rfl rfl) dX9_finds_43 ?_
      refine aw_aload_n 0 dX9_finds_46 rfl ?_
      refine mo_getR 20 17 rfl (by decide) (wl4 (i := 118) rfl rfl) dX9_finds_47 ?_
      refine aw_iload_n 2 dX9_finds_50 rfl ?_
      obtain ⟨hi2, hf⟩ := xifn hf
      refine mo_iald 17 16 rfl (xin_v hi2) dX9_finds_51 ?_
      obtain ⟨hi3, hf⟩ := xifn hf
      refine mo_zald 9 16 rfl (xin_v hi3) dX9_finds_52 ?_
      refine aw_if_ne 66 dX9_finds_53 (by decide) (fun c4 => ?_) (fun c4 => ?_)
      · rw [if_neg c4] at hf
        refine aw_lv [0, 1, 2] rfl ?_
        exact wkX9_finds_66 hl _ hk37 _ _ _ hf
      · rw [if_pos c4] at hf
        refine aw_aload_n 0 dX9_finds_56 rfl ?_
        refine aw_aload_n 0 dX9_finds_57 rfl ?_
        refine mo_getR 20 17 rfl (by decide) (wl4 (i := 118) rfl rfl) dX9_finds_58 ?_
        refine aw_iload_n 2 dX9_finds_61 rfl ?_
        refine mo_iald 17 16 rfl (xin_v hi2) dX9_finds_62 ?_
        obtain ⟨q5, hq5, hf⟩ := xbind hf
        refine aw_callV 7 (some mo) [.int (m_I S 17 a2.toNatClampNeg)] 1 rfl mo_ob rfl rfl (ctX9_counts hl _ _ hq5) ⟨wl5 (i := 116) rfl rfl, ciX9_counts⟩ (wl5 (i := 118) rfl rfl) (wl0 (i := 34) rfl rfl) dX9_finds_63 rfl rfl (Nat.le_of_ble_eq_true rfl) ⟨Nat.le_of_ble_eq_true rfl, Nat.le_of_ble_eq_true rfl⟩ ⟨Nat.le_of_ble_eq_true rfl, Nat.le_of_ble_eq_true rfl⟩ ?_
        refine aw_lv [0, 1, 2] rfl ?_
        exact wkX9_finds_66 hl _ hk37 _ _ _ hf
def fX9_finds_2 : Nat → MS → Int32 → Int32 → Option (MS)
  | 0, _, _, _ => none
  | n + 1, S, a1, a2 =>
    (if (m_i S 0) ≤ a2 then fX9_finds_37 FU S a1 (0 : Int32) else (if xin a2 8 = true then (some (ms_I (ms_I S 1 a2.toNatClampNeg (m_I S 0 a2.toNatClampNeg)) 2 a2.toNatClampNeg (0 : Int32))).bind fun W3 => fX9_finds_2 n W3 a1 (a2 + (1 : Int32)) else none))
set_option maxHeartbeats 4000000 in
set_option maxRecDepth 100000 in
theorem wkX9_finds_2 {l : Launch} {g : xG} {x0 : xV} {mo sz : Nat} (hl : l.stackTraces = false) {r : MS} : ∀ (n : Nat) (S : MS) (a1 : Int32) (a2 : Int32), fX9_finds_2 n S a1 a2 = some r → AW MX9_finds rmX9_finds l g x0 (.inl none) (moE g mo sz r) 0 0 (moE g mo sz S) 2 [(0, .ref mo), (1, .int a1), (2, .int a2)] [] := by
  intro n
  induction n with
  | zero => intro S a1 a2 hf; exact absurd hf (by simp [fX9_finds_2])
  | succ n hk2 =>
    intro S a1 a2 hf
    rw [fX9_finds_2] at hf
    refine aw_iload_n 2 dX9_finds_2 rfl ?_
    refine aw_aload_n 0 dX9_finds_3 rfl ?_
    refine mo_getI 0 rfl (by decide) (wl4 (i := 98) rfl rfl) dX9_finds_4 ?_
    refine aw_icmp_ge 35 dX9_finds_7 (by decide) (fun c1 => ?_) (fun c1 => ?_)
    · rw [if_pos c1] at hf
      refine aw_iconst (0 : Int32) dX9_finds_35 (by decide) ?_
      refine aw_istore_n [(2, .int (0 : Int32)), (0, .ref mo), (1, .int a1)] dX9_finds_36 rfl (by decide) rfl ?_
      refine aw_lv [1, 2, 0] rfl ?_
      exact wkX9_finds_37 hl _ _ _ _ hf
    · rw [if_neg c1] at hf
      refine aw_aload_n 0 dX9_finds_10 rfl ?_
      refine mo_getR 2 1 rfl (by decide) (wl4 (i := 100) rfl rfl) dX9_finds_11 ?_
      refine aw_iload_n 2 dX9_finds_14 rfl ?_
      refine aw_aload_n 0 dX9_finds_15 rfl ?_
      refine mo_getR 1 0 rfl (by decide) (wl4 (i := 99) rfl rfl) dX9_finds_16 ?_
      refine aw_iload_n 2 dX9_finds_19 rfl ?_
      obtain ⟨hi2, hf⟩ := xifn hf
      refine mo_iald 0 8 rfl (xin_v hi2) dX9_finds_20 ?_
      refine mo_iast 1 8 rfl (xin_v hi2) dX9_finds_21 ?_
      refine aw_aload_n 0 dX9_finds_22 rfl ?_
      refine mo_getR 3 2 rfl (by decide) (wl4 (i := 101) rfl rfl) dX9_finds_23 ?_
      refine aw_iload_n 2 dX9_finds_26 rfl ?_
      refine aw_iconst (0 : Int32) dX9_finds_27 (by decide) ?_
      obtain ⟨W3, hW3, hf⟩ := xlet hf
      refine mo_iast 2 8 rfl (xin_v hi2) dX9_finds_28 ?_
      rw [hW3]
      refine aw_iinc [(2, .int (a2 + (1 : Int32))), (0, .ref mo), (1, .int a1)] 2 dX9_finds_29 rfl rfl (by decide) rfl ?_
      refine aw_goto 2 dX9_finds_32 (by decide) ?_
      refine aw_lv [1, 2, 0] rfl ?_
      exact hk2 _ _ _ hf
def fX9_finds (S : MS) (a1 : Int32) : Option (MS) :=
  fX9_finds_2 FU S a1 (0 : Int32)
set_option maxHeartbeats 4000000 in
set_option maxRecDepth 100000 in
theorem ctX9_finds {l : Launch} {g : xG} {mo sz : Nat} (hl : l.stackTraces = false) {r : MS} (S : MS) (a1 : Int32) (hf : fX9_finds S a1 = some r) : CT yX9_finds MX9_finds rmX9_finds l g [.ref mo, .int a1] (moE g mo sz S) (.inl none) (moE g mo sz r) := by
  rw [fX9_finds] at hf
  refine CT.of (lv0 := [(0, .ref mo), (1, .int a1)]) (by decide +kernel) rfl rfl (Nat.le_of_ble_eq_true rfl) rfl hl ?_
  refine aw_iconst (0 : Int32) dX9_finds_0 (by decide) ?_
  refine aw_istore_n [(2, .int (0 : Int32)), (0, .ref mo), (1, .int a1)] dX9_finds_1 rfl (by decide) rfl ?_
  refine aw_lv [1, 2, 0] rfl ?_
  exact wkX9_finds_2 hl _ _ _ _ hf
abbrev MX9_handicapOf : xM := (RX9, cX9_handicapOf, 3, (some .int), "handicapOf")
abbrev rmX9_handicapOf : Room := { frames := 1, cells := 0, slots := 0, locals := 22 }
theorem ciX9_handicapOf : Cond.code yX9_handicapOf cX9_handicapOf 3 (some .int) ∈ wt ∧ Cond.initialized yX9_handicapOf.cls ∈ wt ∧ (yX9_handicapOf.cls ≠ "java/lang/invoke/MethodHandle" ∧ yX9_handicapOf.cls ≠ "java/lang/invoke/VarHandle" ∧ (parseMethodDescriptor yX9_handicapOf.desc).map (fun d => d.parameters.length) = some 2) := ⟨wl5 (i := 43) rfl rfl, wl1 (i := 4) rfl rfl, by decide +kernel, by decide +kernel, by decide +kernel⟩
def fX9_handicapOf (S : MS) (a1 : Int32) (a2 : Int32) : Option (Int32) :=
  (fX9_apart S a1 a2).bind fun q1 => (if q1 ≤ (4 : Int32) then (fX9_apart S a1 a2).bind fun q3 => some q3 else some (4 : Int32))
set_option maxHeartbeats 4000000 in
set_option maxRecDepth 100000 in
theorem ctX9_handicapOf {l : Launch} {g : xG} {mo sz : Nat} (hl : l.stackTraces = false) {r : Int32} (S : MS) (a1 : Int32) (a2 : Int32) (hf : fX9_handicapOf S a1 a2 = some r) : CT yX9_handicapOf MX9_handicapOf rmX9_handicapOf l g [.ref mo, .int a1, .int a2] (moE g mo sz S) (.inl (some (.int r))) (moE g mo sz S) := by
  rw [fX9_handicapOf] at hf
  refine CT.of (lv0 := [(0, .ref mo), (1, .int a1), (2, .int a2)]) (by decide +kernel) rfl rfl (Nat.le_of_ble_eq_true rfl) rfl hl ?_
  refine aw_aload_n 0 dX9_handicapOf_0 rfl ?_
  refine aw_iload_n 1 dX9_handicapOf_1 rfl ?_
  refine aw_iload_n 2 dX9_handicapOf_2 rfl ?_
  obtain ⟨q1, hq1, hf⟩ := xbind hf
  refine aw_callV 7 (some mo) [.int a1, .int a2] 2 rfl mo_ob rfl rfl (ctX9_apart hl _ _ _ hq1) ⟨wl5 (i := 44) rfl rfl, ciX9_apart⟩ (wl5 (i := 46) rfl rfl) (wl0 (i := 24) rfl rfl) dX9_handicapOf_3 rfl rfl (Nat.le_of_ble_eq_true rfl) ⟨Nat.le_of_ble_eq_true rfl, Nat.le_of_ble_eq_true rfl⟩ ⟨Nat.le_of_ble_eq_true rfl, Nat.le_of_ble_eq_true rfl⟩ ?_
  refine aw_iconst (4 : Int32) dX9_handicapOf_6 (by decide) ?_
  refine aw_icmp_le 14 dX9_handicapOf_7 (by decide) (fun c2 => ?_) (fun c2 => ?_)
  · rw [if_pos c2] at hf
    refine aw_aload_n 0 dX9_handicapOf_14 rfl ?_
    refine aw_iload_n 1 dX9_handicapOf_15 rfl ?_
    refine aw_iload_n 2 dX9_handicapOf_16 rfl ?_
    obtain ⟨q3, hq3, hf⟩ := xbind hf
    refine aw_callV 7 (some mo) [.int a1, .int a2] 2 rfl mo_ob rfl rfl (ctX9_apart hl _ _ _ hq3) ⟨wl5 (i := 44) rfl rfl, ciX9_apart⟩ (wl5 (i := 46) rfl rfl) (wl0 (i := 24) rfl rfl) dX9_handicapOf_17 rfl rfl (Nat.le_of_ble_eq_true rfl) ⟨Nat.le_of_ble_eq_true rfl, Nat.le_of_ble_eq_true rfl⟩ ⟨Nat.le_of_ble_eq_true rfl, Nat.le_of_ble_eq_true rfl⟩ ?_
    cases hf
    exact aw_iret dX9_handicapOf_20 rfl rfl rfl ⟨Nat.le_of_ble_eq_true rfl, Nat.le_of_ble_eq_true rfl⟩
  · rw [if_neg c2] at hf
    refine aw_iconst (4 : Int32) dX9_handicapOf_10 (by decide) ?_
    refine aw_goto 20 dX9_handicapOf_11 (by decide) ?_
    cases hf
    exact aw_iret dX9_handicapOf_20 rfl rfl rfl ⟨Nat.le_of_ble_eq_true rfl, Nat.le_of_ble_eq_true rfl⟩
abbrev MX9_dueOf : xM := (RX9, cX9_dueOf, 5, (some .int), "dueOf")
abbrev rmX9_dueOf : Room := { frames := 3, cells := 0, slots := 0, locals := 65 }
theorem ciX9_dueOf : Cond.code yX9_dueOf cX9_dueOf 5 (some .int) ∈ wt ∧ Cond.initialized yX9_dueOf.cls ∈ wt ∧ (yX9_dueOf.cls ≠ "java/lang/invoke/MethodHandle" ∧ yX9_dueOf.cls ≠ "java/lang/invoke/VarHandle" ∧ (parseMethodDescriptor yX9_dueOf.desc).map (fun d => d.parameters.length) = some 1) := ⟨wl5 (i := 194) rfl rfl, wl1 (i := 4) rfl rfl, by decide +kernel, by decide +kernel, by decide +kernel⟩
def fX9_dueOf (S : MS) (a1 : Int32) : Option (Int32 × MS) :=
  (if xin a1 16 = true then (fX9_finds S (m_I S 10 a1.toNatClampNeg)).bind fun q2 => (fX9_blackOf q2 (m_I q2 3 a1.toNatClampNeg) (m_I q2 4 a1.toNatClampNeg)).bind fun q3 => (fX9_blackOf q2 (m_I q2 3 a1.toNatClampNeg) (m_I q2 4 a1.toNatClampNeg)).bind fun q4 => (fX9_handicapOf q2 (m_I q2 3 a1.toNatClampNeg) (m_I q2 4 a1.toNatClampNeg)).bind fun q5 => (fX9_finds q2 (m_i q2 19)).bind fun q6 => some (((((100 : Int32) * q3) + ((10 : Int32) * (((m_I q2 3 a1.toNatClampNeg) + (m_I q2 4 a1.toNatClampNeg)) - q4))) + q5), q6) else none)
set_option maxHeartbeats 4000000 in
set_option maxRecDepth 100000 in
theorem ctX9_dueOf {l : Launch} {g : xG} {mo sz : Nat} (hl : l.stackTraces = false) {r : Int32 × MS} (S : MS) (a1 : Int32) (hf : fX9_dueOf S a1 = some r) : CT yX9_dueOf MX9_dueOf rmX9_dueOf l g [.ref mo, .int a1] (moE g mo sz S) (.inl (some (.int r.1))) (moE g mo sz r.2) := by
  rw [fX9_dueOf] at hf
  refine CT.of (lv0 := [(0, .ref mo), (1, .int a1)]) (by decide +kernel) rfl rfl (Nat.le_of_ble_eq_true rfl) rfl hl ?_
  refine aw_aload_n 0 dX9_dueOf_0 rfl ?_
  refine aw_aload_n 0 dX9_dueOf_1 rfl ?_
  refine mo_getR 12 10 rfl (by decide) (wl4 (i := 110) rfl rfl) dX9_dueOf_2 ?_
  refine aw_iload_n 1 dX9_dueOf_5 rfl ?_
  obtain ⟨hi1, hf⟩ := xifn hf
  refine mo_iald 10 16 rfl (xin_v hi1) dX9_dueOf_6 ?_
  obtain ⟨q2, hq2, hf⟩ := xbind hf
  refine aw_callV 7 (some mo) [.int (m_I S 10 a1.toNatClampNeg)] 1 rfl mo_ob rfl rfl (ctX9_finds hl _ _ hq2) ⟨wl5 (i := 179) rfl rfl, ciX9_finds⟩ (wl5 (i := 181) rfl rfl) (wl0 (i := 39) rfl rfl) dX9_dueOf_7 rfl rfl (Nat.le_of_ble_eq_true rfl) ⟨Nat.le_of_ble_eq_true rfl, Nat.le_of_ble_eq_true rfl⟩ ⟨Nat.le_of_ble_eq_true rfl, Nat.le_of_ble_eq_true rfl⟩ ?_
  refine aw_aload_n 0 dX9_dueOf_10 rfl ?_
  refine mo_getR 5 3 rfl (by decide) (wl4 (i := 103) rfl rfl) dX9_dueOf_11 ?_
  refine aw_iload_n 1 dX9_dueOf_14 rfl ?_
  refine mo_iald 3 16 rfl (xin_v hi1) dX9_dueOf_15 ?_
  refine aw_istore_n [(2, .int (m_I q2 3 a1.toNatClampNeg)), (0, .ref mo), (1, .int a1)] dX9_dueOf_16 rfl (by decide) rfl ?_
  refine aw_aload_n 1 dX9_dueOf_17 rfl ?_
  refine mo_getR 6 4 rfl (by decide) (wl4 (i := 104) rfl rfl) dX9_dueOf_18 ?_
  refine aw_iload_n 2 dX9_dueOf_21 rfl ?_
  refine mo_iald 4 16 rfl (xin_v hi1) dX9_dueOf_22 ?_
  refine aw_istore_n [(3, .int (m_I q2 4 a1.toNatClampNeg)), (2, .int (m_I q2 3 a1.toNatClampNeg)), (0, .ref mo), (1, .int a1)] dX9_dueOf_23 rfl (by decide) rfl ?_
  refine aw_bipush (100 : Int32) dX9_dueOf_24 (by decide) ?_
  refine aw_aload_n 2 dX9_dueOf_26 rfl ?_
  refine aw_iload_n 1 dX9_dueOf_27 rfl ?_
  refine aw_iload_n 0 dX9_dueOf_28 rfl ?_
  obtain ⟨q3, hq3, hf⟩ := xbind hf
  refine aw_callV 7 (some mo) [.int (m_I q2 3 a1.toNatClampNeg), .int (m_I q2 4 a1.toNatClampNeg)] 2 rfl mo_ob rfl rfl (ctX9_blackOf hl _ _ _ hq3) ⟨wl5 (i := 36) rfl rfl, ciX9_blackOf⟩ (wl5 (i := 38) rfl rfl) (wl0 (i := 22) rfl rfl) dX9_dueOf_29 rfl rfl (Nat.le_of_ble_eq_true rfl) ⟨Nat.le_of_ble_eq_true rfl, Nat.le_of_ble_eq_true rfl⟩ ⟨Nat.le_of_ble_eq_true rfl, Nat.le_of_ble_eq_true rfl⟩ ?_
  refine aw_imul dX9_dueOf_32 ?_
  refine aw_bipush (10 : Int32) dX9_dueOf_33 (by decide) ?_
  refine aw_iload_n 1 dX9_dueOf_35 rfl ?_
  refine aw_iload_n 0 dX9_dueOf_36 rfl ?_
  refine aw_iadd dX9_dueOf_37 ?_
  refine aw_aload_n 2 dX9_dueOf_38 rfl ?_
  refine aw_iload_n 1 dX9_dueOf_39 rfl ?_
  refine aw_iload_n 0 dX9_dueOf_40 rfl ?_
  obtain ⟨q4, hq4, hf⟩ := xbind hf
  refine aw_callV 7 (some mo) [.int (m_I q2 3 a1.toNatClampNeg), .int (m_I q2 4 a1.toNatClampNeg)] 2 rfl mo_ob rfl rfl (ctX9_blackOf hl _ _ _ hq4) ⟨wl5 (i := 36) rfl rfl, ciX9_blackOf⟩ (wl5 (i := 38) rfl rfl) (wl0 (i := 22) rfl rfl) dX9_dueOf_41 rfl rfl (Nat.le_of_ble_eq_true rfl) ⟨Nat.le_of_ble_eq_true rfl, Nat.le_of_ble_eq_true rfl⟩ ⟨Nat.le_of_ble_eq_true rfl, Nat.le_of_ble_eq_true rfl⟩ ?_
  refine aw_isub dX9_dueOf_44 ?_
  refine aw_imul dX9_dueOf_45 ?_
  refine aw_iadd dX9_dueOf_46 ?_
  refine aw_aload_n 2 dX9_dueOf_47 rfl ?_
  refine aw_iload_n 1 dX9_dueOf_48 rfl ?_
  refine aw_iload_n 0 dX9_dueOf_49 rfl ?_
  obtain ⟨q5, hq5, hf⟩ := xbind hf
  refine aw_callV 7 (some mo) [.int (m_I q2 3 a1.toNatClampNeg), .int (m_I q2 4 a1.toNatClampNeg)] 2 rfl mo_ob rfl rfl (ctX9_handicapOf hl _ _ _ hq5) ⟨wl5 (i := 40) rfl rfl, ciX9_handicapOf⟩ (wl5 (i := 42) rfl rfl) (wl0 (i := 23) rfl rfl) dX9_dueOf_50 rfl rfl (Nat.le_of_ble_eq_true rfl) ⟨Nat.le_of_ble_eq_true rfl, Nat.le_of_ble_eq_true rfl⟩ ⟨Nat.le_of_ble_eq_true rfl, Nat.le_of_ble_eq_true rfl⟩ ?_
  refine aw_iadd dX9_dueOf_53 ?_
  refine aw_istore [(4, .int ((((100 : Int32) * q3) + ((10 : Int32) * (((m_I q2 3 a1.toNatClampNeg) + (m_I q2 4 a1.toNatClampNeg)) - q4))) + q5)), (3, .int (m_I q2 4 a1.toNatClampNeg)), (2, .int (m_I q2 3 a1.toNatClampNeg)), (0, .ref mo), (1, .int a1)] dX9_dueOf_54 (by decide) rfl ?_
  refine aw_aload_n 3 dX9_dueOf_56 rfl ?_
  refine aw_aload_n 3 dX9_dueOf_57 rfl ?_
  refine mo_getI 19 rfl (by decide) (wl4 (i := 117) rfl rfl) dX9_dueOf_58 ?_
  obtain ⟨q6, hq6, hf⟩ := xbind hf
  refine aw_callV 7 (some mo) [.int (m_i q2 19)] 1 rfl mo_ob rfl rfl (ctX9_finds hl _ _ hq6) ⟨wl5 (i := 179) rfl rfl, ciX9_finds⟩ (wl5 (i := 181) rfl rfl) (wl0 (i := 39) rfl rfl) dX9_dueOf_61 rfl rfl (Nat.le_of_ble_eq_true rfl) ⟨Nat.le_of_ble_eq_true rfl, Nat.le_of_ble_eq_true rfl⟩ ⟨Nat.le_of_ble_eq_true rfl, Nat.le_of_ble_eq_true rfl⟩ ?_
  refine aw_iload 0 dX9_dueOf_64 rfl ?_
  cases hf
  exact aw_iret dX9_dueOf_66 rfl rfl rfl ⟨Nat.le_of_ble_eq_true rfl, Nat.le_of_ble_eq_true rfl⟩
abbrev MX9_due : xM := (RX9, cX9_due, 2, (some .int), "due")
abbrev rmX9_due : Room := { frames := 4, cells := 0, slots := 0, locals := 89 }
theorem ciX9_due : Cond.code yX9_due cX9_due 2 (some .int) ∈ wt ∧ Cond.initialized yX9_due.cls ∈ wt ∧ (yX9_due.cls ≠ "java/lang/invoke/MethodHandle" ∧ yX9_due.cls ≠ "java/lang/invoke/VarHandle" ∧ (parseMethodDescriptor yX9_due.desc).map (fun d => d.parameters.length) = some 1) := ⟨wl5 (i := 198) rfl rfl, wl1 (i := 4) rfl rfl, by decide +kernel, by decide +kernel, by decide +kernel⟩
def fX9_due_14 (S : MS) (a1 : Int32) (s1 : Int32) : Option (Int32 × MS) :=
  (fX9_fails S s1).bind fun q1 => (if q1.1 = false then (fX9_dueOf q1.2 a1).bind fun q3 => some (q3.1, q3.2) else some ((0 : Int32), q1.2))
set_option maxHeartbeats 4000000 in
set_option maxRecDepth 100000 in
theorem wkX9_due_14 {l : Launch} {g : xG} {x0 : xV} {mo sz : Nat} (hl : l.stackTraces = false) {r : Int32 × MS} (S : MS) (a1 : Int32) (s1 : Int32) (hf : fX9_due_14 S a1 s1 = some r) : AW MX9_due rmX9_due l g x0 (.inl (some (.int r.1))) (moE g mo sz r.2) 0 0 (moE g mo sz S) 14 [(0, .ref mo), (1, .int a1)] [.int s1, .ref mo] := by
  rw [fX9_due_14] at hf
  obtain ⟨q1, hq1, hf⟩ := xbind hf
  refine aw_callV 7 (some mo) [.int s1] 1 rfl mo_ob rfl rfl (ctX9_fails hl _ _ hq1) ⟨wl5 (i := 16) rfl rfl, ciX9_fails⟩ (wl5 (i := 18) rfl rfl) (wl0 (i := 19) rfl rfl) dX9_due_14 rfl rfl (Nat.le_of_ble_eq_true rfl) ⟨Nat.le_of_ble_eq_true rfl, Nat.le_of_ble_eq_true rfl⟩ ⟨Nat.le_of_ble_eq_true rfl, Nat.le_of_ble_eq_true rfl⟩ ?_
  refine aw_ifb_eq 24 dX9_due_17 (by decide) (fun c2 => ?_) (fun c2 => ?_)
  · rw [if_pos c2] at hf
    refine aw_aload_n 0 dX9_due_24 rfl ?_
    refine aw_iload_n 1 dX9_due_25 rfl ?_
    obtain ⟨q3, hq3, hf⟩ := xbind hf
    refine aw_callV 7 (some mo) [.int a1] 1 rfl mo_ob rfl rfl (ctX9_dueOf hl _ _ hq3) ⟨wl5 (i := 191) rfl rfl, ciX9_dueOf⟩ (wl5 (i := 193) rfl rfl) (wl0 (i := 42) rfl rfl) dX9_due_26 rfl rfl (Nat.le_of_ble_eq_true rfl) ⟨Nat.le_of_ble_eq_true rfl, Nat.le_of_ble_eq_true rfl⟩ ⟨Nat.le_of_ble_eq_true rfl, Nat.le_of_ble_eq_true rfl⟩ ?_
    cases hf
    exact aw_iret dX9_due_29 rfl rfl rfl ⟨Nat.le_of_ble_eq_true rfl, Nat.le_of_ble_eq_true rfl⟩
  · rw [if_neg c2] at hf
    refine aw_iconst (0 : Int32) dX9_due_20 (by decide) ?_
    refine aw_goto 29 dX9_due_21 (by decide) ?_
    cases hf
    exact aw_iret dX9_due_29 rfl rfl rfl ⟨Nat.le_of_ble_eq_true rfl, Nat.le_of_ble_eq_true rfl⟩
def fX9_due (S : MS) (a1 : Int32) : Option (Int32 × MS) :=
  (fX9_isGame S a1).bind fun q1 => (if q1 = false then fX9_due_14 S a1 (1 : Int32) else fX9_due_14 S a1 (0 : Int32))
set_option maxHeartbeats 4000000 in
set_option maxRecDepth 100000 in
theorem ctX9_due {l : Launch} {g : xG} {mo sz : Nat} (hl : l.stackTraces = false) {r : Int32 × MS} (S : MS) (a1 : Int32) (hf : fX9_due S a1 = some r) : CT yX9_due MX9_due rmX9_due l g [.ref mo, .int a1] (moE g mo sz S) (.inl (some (.int r.1))) (moE g mo sz r.2) := by
  rw [fX9_due] at hf
  refine CT.of (lv0 := [(0, .ref mo), (1, .int a1)]) (by decide +kernel) rfl rfl (Nat.le_of_ble_eq_true rfl) rfl hl ?_
  refine aw_aload_n 0 dX9_due_0 rfl ?_
  refine aw_aload_n 0 dX9_due_1 rfl ?_
  refine aw_iload_n 1 dX9_due_2 rfl ?_
  obtain ⟨q1, hq1, hf⟩ := xbind hf
  refine aw_callV 7 (some mo) [.int a1] 1 rfl mo_ob rfl rfl (ctX9_isGame hl _ _ hq1) ⟨wl5 (i := 62) rfl rfl, ciX9_isGame⟩ (wl5 (i := 64) rfl rfl) (wl0 (i := 26) rfl rfl) dX9_due_3 rfl rfl (Nat.le_of_ble_eq_true rfl) ⟨Nat.le_of_ble_eq_true rfl, Nat.le_of_ble_eq_true rfl⟩ ⟨Nat.le_of_ble_eq_true rfl, Nat.le_of_ble_eq_true rfl⟩ ?_
  refine aw_ifb_eq 13 dX9_due_6 (by decide) (fun c2 => ?_) (fun c2 => ?_)
  · rw [if_pos c2] at hf
    refine aw_iconst (1 : Int32) dX9_due_13 (by decide) ?_
    refine aw_lv [0, 1] rfl ?_
    exact wkX9_due_14 hl _ _ _ hf
  · rw [if_neg c2] at hf
    refine aw_iconst (0 : Int32) dX9_due_9 (by decide) ?_
    refine aw_goto 14 dX9_due_10 (by decide) ?_
    refine aw_lv [0, 1] rfl ?_
    exact wkX9_due_14 hl _ _ _ hf
abbrev MX9_ends : xM := (RX9, cX9_ends, 3, none, "ends")
abbrev rmX9_ends : Room := { frames := 2, cells := 0, slots := 0, locals := 43 }
theorem ciX9_ends : Cond.code yX9_ends cX9_ends 3 none ∈ wt ∧ Cond.initialized yX9_ends.cls ∈ wt ∧ (yX9_ends.cls ≠ "java/lang/invoke/MethodHandle" ∧ yX9_ends.cls ≠ "java/lang/invoke/VarHandle" ∧ (parseMethodDescriptor yX9_ends.desc).map (fun d => d.parameters.length) = some 2) := ⟨wl5 (i := 115) rfl rfl, wl1 (i := 4) rfl rfl, by decide +kernel, by decide +kernel, by decide +kernel⟩
def fX9_ends (S : MS) (a1 : Int32) (a2 : Int32) : Option (MS) :=
  (if xin a1 16 = true then (if xin (m_i (ms_I S 8 a1.toNatClampNeg (a2 + (1 : Int32))) 19) 16 = true then (some (ms_I (ms_I S 8 a1.toNatClampNeg (a2 + (1 : Int32))) 17 (m_i (ms_I S 8 a1.toNatClampNeg (a2 + (1 : Int32))) 19).toNatClampNeg a1)).bind fun W3 => (fX9_counts (ms_i W3 19 ((m_i W3 19) + (1 : Int32))) a1).bind fun q4 => some q4 else none) else none)
set_option maxHeartbeats 4000000 in
set_option maxRecDepth 100000 in
theorem ctX9_ends {l : Launch} {g : xG} {mo sz : Nat} (hl : l.stackTraces = false) {r : MS} (S : MS) (a1 : Int32) (a2 : Int32) (hf : fX9_ends S a1 a2 = some r) : CT yX9_ends MX9_ends rmX9_ends l g [.ref mo, .int a1, .int a2] (moE g mo sz S) (.inl none) (moE g mo sz r) := by
  rw [fX9_ends] at hf
  refine CT.of (lv0 := [(0, .ref mo), (1, .int a1), (2, .int a2)]) (by decide +kernel) rfl rfl (Nat.le_of_ble_eq_true rfl) rfl hl ?_
  refine aw_aload_n 0 dX9_ends_0 rfl ?_
  refine mo_getR 10 8 rfl (by decide) (wl4 (i := 108) rfl rfl) dX9_ends_1 ?_
  refine aw_iload_n 1 dX9_ends_4 rfl ?_
  refine aw_iload_n 2 dX9_ends_5 rfl ?_
  refine aw_iconst (1 : Int32) dX9_ends_6 (by decide) ?_
  refine aw_iadd dX9_ends_7 ?_
  obtain ⟨hi1, hf⟩ := xifn hf
  refine mo_iast 8 16 rfl (xin_v hi1) dX9_ends_8 ?_
  refine aw_aload_n 0 dX9_ends_9 rfl ?_
  refine mo_getR 20 17 rfl (by decide) (wl4 (i := 118) rfl rfl) dX9_ends_10 ?_
  refine aw_aload_n 0 dX9_ends_13 rfl ?_
  refine mo_getI 19 rfl (by decide) (wl4 (i := 117) rfl rfl) dX9_ends_14 ?_
  refine aw_iload_n 1 dX9_ends_17 rfl ?_
  obtain ⟨hi2, hf⟩ := xifn hf
  obtain ⟨W3, hW3, hf⟩ := xlet hf
  refine mo_iast 17 16 rfl (xin_v hi2) dX9_ends_18 ?_
  rw [hW3]
  refine aw_aload_n 0 dX9_ends_19 rfl ?_
  refine aw_dup dX9_ends_20 rfl ?_
  refine mo_getI 19 rfl (by decide) (wl4 (i := 117) rfl rfl) dX9_ends_21 ?_
  refine aw_iconst (1 : Int32) dX9_ends_24 (by decide) ?_
  refine aw_iadd dX9_ends_25 ?_
  refine mo_putI 19 rfl (by decide) rfl rfl rfl rfl (wl4 (i := 117) rfl rfl) dX9_ends_26 ?_
  refine aw_aload_n 0 dX9_ends_29 rfl ?_
  refine aw_iload_n 1 dX9_ends_30 rfl ?_
  obtain ⟨q4, hq4, hf⟩ := xbind hf
  refine aw_callV 7 (some mo) [.int a1] 1 rfl mo_ob rfl rfl (ctX9_counts hl _ _ hq4) ⟨wl5 (i := 116) rfl rfl, ciX9_counts⟩ (wl5 (i := 118) rfl rfl) (wl0 (i := 34) rfl rfl) dX9_ends_31 rfl rfl (Nat.le_of_ble_eq_true rfl) ⟨Nat.le_of_ble_eq_true rfl, Nat.le_of_ble_eq_true rfl⟩ ⟨Nat.le_of_ble_eq_true rfl, Nat.le_of_ble_eq_true rfl⟩ ?_
  cases hf
  exact aw_vret dX9_ends_34 rfl rfl rfl ⟨Nat.le_of_ble_eq_true rfl, Nat.le_of_ble_eq_true rfl⟩
abbrev MX9_libertiesOf : xM := (RX9, cX9_libertiesOf, 7, (some .int), "libertiesOf")
abbrev rmX9_libertiesOf : Room := { frames := 3, cells := 0, slots := 0, locals := 72 }
theorem ciX9_libertiesOf : Cond.code yX9_libertiesOf cX9_libertiesOf 7 (some .int) ∈ wt ∧ Cond.initialized yX9_libertiesOf.cls ∈ wt ∧ (yX9_libertiesOf.cls ≠ "java/lang/invoke/MethodHandle" ∧ yX9_libertiesOf.cls ≠ "java/lang/invoke/VarHandle" ∧ (parseMethodDescriptor yX9_libertiesOf.desc).map (fun d => d.parameters.length) = some 2) := ⟨wl5 (i := 167) rfl rfl, wl1 (i := 4) rfl rfl, by decide +kernel, by decide +kernel, by decide +kernel⟩
def fX9_libertiesOf_21 (S : MS) (a1 : Int32) (a2 : Int32) (s1 : Int32) : Option (Int32 × MS) :=
  (fX9_fails S s1).bind fun q1 => (if q1.1 = false then (if xin a1 16 = true then (if xin (m_I q1.2 11 a1.toNatClampNeg) 4096 = true then (fX9_chainAt (m_J q1.2 18 (m_I q1.2 11 a1.toNatClampNeg).toNatClampNeg) (m_J q1.2 19 (m_I q1.2 11 a1.toNatClampNeg).toNatClampNeg) a2).bind fun q5 => (fX9_free q5 (m_J q1.2 18 (m_I q1.2 11 a1.toNatClampNeg).toNatClampNeg) (m_J q1.2 19 (m_I q1.2 11 a1.toNatClampNeg).toNatClampNeg)).bind fun q6 => (fX9_bits q6).bind fun q7 => some (q7, q1.2) else none) else none) else some ((0 : Int32), q1.2))
set_option maxHeartbeats 4000000 in
set_option maxRecDepth 100000 in
theorem wkX9_libertiesOf_21 {l : Launch} {g : xG} {x0 : xV} {mo sz : Nat} (hl : l.stackTraces = false) {r : Int32 × MS} (S : MS) (a1 : Int32) (a2 : Int32) (s1 : Int32) (hf : fX9_libertiesOf_21 S a1 a2 s1 = some r) : AW MX9_libertiesOf rmX9_libertiesOf l g x0 (.inl (some (.int r.1))) (moE g mo sz r.2) 0 0 (moE g mo sz S) 21 [(0, .ref mo), (1, .int a1), (2, .int a2)] [.int s1, .ref mo] := by
  rw [fX9_libertiesOf_21] at hf
  obtain ⟨q1, hq1, hf⟩ := xbind hf
  refine aw_callV 7 (some mo) [.int s1] 1 rfl mo_ob rfl rfl (ctX9_fails hl _ _ hq1) ⟨wl5 (i := 16) rfl rfl, ciX9_fails⟩ (wl5 (i := 18) rfl rfl) (wl0 (i := 19) rfl rfl) dX9_libertiesOf_21 rfl rfl (Nat.le_of_ble_eq_true rfl) ⟨Nat.le_of_ble_eq_true rfl, Nat.le_of_ble_eq_true rfl⟩ ⟨Nat.le_of_ble_eq_true rfl, Nat.le_of_ble_eq_true rfl⟩ ?_
  refine aw_ifb_eq 29 dX9_libertiesOf_24 (by decide) (fun c2 => ?_) (fun c2 => ?_)
  · rw [if_pos c2] at hf
    refine aw_aload_n 0 dX9_libertiesOf_29 rfl ?_
    refine mo_getR 22 18 rfl (by decide) (wl4 (i := 120) rfl rfl) dX9_libertiesOf_30 ?_
    refine aw_aload_n 0 dX9_libertiesOf_33 rfl ?_
    refine mo_getR 13 11 rfl (by decide) (wl4 (i := 111) rfl rfl) dX9_libertiesOf_34 ?_
    refine aw_iload_n 1 dX9_libertiesOf_37 rfl ?_
    obtain ⟨hi3, hf⟩ := xifn hf
    refine mo_iald 11 16 rfl (xin_v hi3) dX9_libertiesOf_38 ?_
    obtain ⟨hi4, hf⟩ := xifn hf
    refine mo_lald 18 4096 rfl (xin_v hi4) dX9_libertiesOf_39 ?_
    refine aw_lstore_n [(3, .long (m_J q1.2 18 (m_I q1.2 11 a1.toNatClampNeg).toNatClampNeg)), (0, .ref mo), (1, .int a1), (2, .int a2)] dX9_libertiesOf_40 rfl (by decide) rfl ?_
    refine aw_aload_n 1 dX9_libertiesOf_41 rfl ?_
    refine mo_getR 23 19 rfl (by decide) (wl4 (i := 121) rfl rfl) dX9_libertiesOf_42 ?_
    refine aw_aload_n 1 dX9_libertiesOf_45 rfl ?_
    refine mo_getR 13 11 rfl (by decide) (wl4 (i := 111) rfl rfl) dX9_libertiesOf_46 ?_
    refine aw_iload_n 2 dX9_libertiesOf_49 rfl ?_
    refine mo_iald 11 16 rfl (xin_v hi3) dX9_libertiesOf_50 ?_
    refine mo_lald 19 4096 rfl (xin_v hi4) dX9_libertiesOf_51 ?_
    refine aw_lstore [(5, .long (m_J q1.2 19 (m_I q1.2 11 a1.toNatClampNeg).toNatClampNeg)), (3, .long (m_J q1.2 18 (m_I q1.2 11 a1.toNatClampNeg).toNatClampNeg)), (0, .ref mo), (1, .int a1), (2, .int a2)] dX9_libertiesOf_52 (by decide) rfl ?_
    refine aw_lload_n 1 dX9_libertiesOf_54 rfl ?_
    refine aw_lload 0 dX9_libertiesOf_55 rfl ?_
    refine aw_iload_n 4 dX9_libertiesOf_57 rfl ?_
    obtain ⟨q5, hq5, hf⟩ := xbind hf
    refine aw_callS [.long (m_J q1.2 18 (m_I q1.2 11 a1.toNatClampNeg).toNatClampNeg), .long (m_J q1.2 19 (m_I q1.2 11 a1.toNatClampNeg).toNatClampNeg), .int a2] 3 (ctX9_chainAt hl _ _ _ hq5) ⟨wl5 (i := 168) rfl rfl, ciX9_chainAt⟩ (wl5 (i := 169) rfl rfl) dX9_libertiesOf_58 rfl rfl (Nat.le_of_ble_eq_true rfl) ⟨Nat.le_of_ble_eq_true rfl, Nat.le_of_ble_eq_true rfl⟩ ⟨Nat.le_of_ble_eq_true rfl, Nat.le_of_ble_eq_true rfl⟩ ?_
    refine aw_lload_n 1 dX9_libertiesOf_61 rfl ?_
    refine aw_lload 0 dX9_libertiesOf_62 rfl ?_
    obtain ⟨q6, hq6, hf⟩ := xbind hf
    refine aw_callS [.long q5, .long (m_J q1.2 18 (m_I q1.2 11 a1.toNatClampNeg).toNatClampNeg), .long (m_J q1.2 19 (m_I q1.2 11 a1.toNatClampNeg).toNatClampNeg)] 3 (ctX9_free hl _ _ _ hq6) ⟨wl5 (i := 98) rfl rfl, ciX9_free⟩ (wl5 (i := 99) rfl rfl) dX9_libertiesOf_64 rfl rfl (Nat.le_of_ble_eq_true rfl) ⟨Nat.le_of_ble_eq_true rfl, Nat.le_of_ble_eq_true rfl⟩ ⟨Nat.le_of_ble_eq_true rfl, Nat.le_of_ble_eq_true rfl⟩ ?_
    obtain ⟨q7, hq7, hf⟩ := xbind hf
    refine aw_callS [.long q6] 1 (ctX9_bits hl _ hq7) ⟨wl5 (i := 101) rfl rfl, ciX9_bits⟩ (wl5 (i := 102) rfl rfl) dX9_libertiesOf_67 rfl rfl (Nat.le_of_ble_eq_true rfl) ⟨Nat.le_of_ble_eq_true rfl, Nat.le_of_ble_eq_true rfl⟩ ⟨Nat.le_of_ble_eq_true rfl, Nat.le_of_ble_eq_true rfl⟩ ?_
    cases hf
    exact aw_iret dX9_libertiesOf_70 rfl rfl rfl ⟨Nat.le_of_ble_eq_true rfl, Nat.le_of_ble_eq_true rfl⟩
  · rw [if_neg c2] at hf
    refine aw_iconst (0 : Int32) dX9_libertiesOf_27 (by decide) ?_
    cases hf
    exact aw_iret dX9_libertiesOf_28 rfl rfl rfl ⟨Nat.le_of_ble_eq_true rfl, Nat.le_of_ble_eq_true rfl⟩
def fX9_libertiesOf (S : MS) (a1 : Int32) (a2 : Int32) : Option (Int32 × MS) :=
  (fX9_isGame S a1).bind fun q1 => (if q1 = false then fX9_libertiesOf_21 S a1 a2 (1 : Int32) else (fX9_isPoint a2).bind fun q3 => (if q3 = false then fX9_libertiesOf_21 S a1 a2 (1 : Int32) else fX9_libertiesOf_21 S a1 a2 (0 : Int32)))
set_option maxHeartbeats 4000000 in
set_option maxRecDepth 100000 in
theorem ctX9_libertiesOf {l : Launch} {g : xG} {mo sz : Nat} (hl : l.stackTraces = false) {r : Int32 × MS} (S : MS) (a1 : Int32) (a2 : Int32) (hf : fX9_libertiesOf S a1 a2 = some r) : CT yX9_libertiesOf MX9_libertiesOf rmX9_libertiesOf l g [.ref mo, .int a1, .int a2] (moE g mo sz S) (.inl (some (.int r.1))) (moE g mo sz r.2) := by
  rw [fX9_libertiesOf] at hf
  refine CT.of (lv0 := [(0, .ref mo), (1, .int a1), (2, .int a2)]) (by decide +kernel) rfl rfl (Nat.le_of_ble_eq_true rfl) rfl hl ?_
  refine aw_aload_n 0 dX9_libertiesOf_0 rfl ?_
  refine aw_aload_n 0 dX9_libertiesOf_1 rfl ?_
  refine aw_iload_n 1 dX9_libertiesOf_2 rfl ?_
  obtain ⟨q1, hq1, hf⟩ := xbind hf
  refine aw_callV 7 (some mo) [.int a1] 1 rfl mo_ob rfl rfl (ctX9_isGame hl _ _ hq1) ⟨wl5 (i := 62) rfl rfl, ciX9_isGame⟩ (wl5 (i := 64) rfl rfl) (wl0 (i := 26) rfl rfl) dX9_libertiesOf_3 rfl rfl (Nat.le_of_ble_eq_true rfl) ⟨Nat.le_of_ble_eq_true rfl, Nat.le_of_ble_eq_true rfl⟩ ⟨Nat.le_of_ble_eq_true rfl, Nat.le_of_ble_eq_true rfl⟩ ?_
  refine aw_ifb_eq 20 dX9_libertiesOf_6 (by decide) (fun c2 => ?_) (fun c2 => ?_)
  · rw [if_pos c2] at hf
    refine aw_iconst (1 : Int32) dX9_libertiesOf_20 (by decide) ?_
    refine aw_lv [0, 1, 2] rfl ?_
    exact wkX9_libertiesOf_21 hl _ _ _ _ hf
  · rw [if_neg c2] at hf
    refine aw_iload_n 2 dX9_libertiesOf_9 rfl ?_
    obtain ⟨q3, hq3, hf⟩ := xbind hf
    refine aw_callS [.int a2] 1 (ctX9_isPoint hl _ hq3) ⟨wl5 (i := 66) rfl rfl, ciX9_isPoint⟩ (wl5 (i := 67) rfl rfl) dX9_libertiesOf_10 rfl rfl (Nat.le_of_ble_eq_true rfl) ⟨Nat.le_of_ble_eq_true rfl, Nat.le_of_ble_eq_true rfl⟩ ⟨Nat.le_of_ble_eq_true rfl, Nat.le_of_ble_eq_true rfl⟩ ?_
    refine aw_ifb_eq 20 dX9_libertiesOf_13 (by decide) (fun c4 => ?_) (fun c4 => ?_)
    · rw [if_pos c4] at hf
      refine aw_iconst (1 : Int32) dX9_libertiesOf_20 (by decide) ?_
      refine aw_lv [0, 1, 2] rfl ?_
      exact wkX9_libertiesOf_21 hl _ _ _ _ hf
    · rw [if_neg c4] at hf
      refine aw_iconst (0 : Int32) dX9_libertiesOf_16 (by decide) ?_
      refine aw_goto 21 dX9_libertiesOf_17 (by decide) ?_
      refine aw_lv [0, 1, 2] rfl ?_
      exact wkX9_libertiesOf_21 hl _ _ _ _ hf
abbrev MX9_flooded : xM := (RX9, cX9_flooded, 3, (some .int), "flooded")
abbrev rmX9_flooded : Room := { frames := 4, cells := 0, slots := 0, locals := 98 }
theorem ciX9_flooded : Cond.code yX9_flooded cX9_flooded 3 (some .int) ∈ wt ∧ Cond.initialized yX9_flooded.cls ∈ wt ∧ (yX9_flooded.cls ≠ "java/lang/invoke/MethodHandle" ∧ yX9_flooded.cls ≠ "java/lang/invoke/VarHandle" ∧ (parseMethodDescriptor yX9_flooded.desc).map (fun d => d.parameters.length) = some 2) := ⟨wl5 (i := 174) rfl rfl, wl1 (i := 4) rfl rfl, by decide +kernel, by decide +kernel, by decide +kernel⟩
def fX9_flooded (S : MS) (a1 : Int32) (a2 : Int32) : Option (Int32 × MS) :=
  (fX9_libertiesOf S a1 a2).bind fun q1 => some (q1.1, q1.2)
set_option maxHeartbeats 4000000 in
set_option maxRecDepth 100000 in
theorem ctX9_flooded {l : Launch} {g : xG} {mo sz : Nat} (hl : l.stackTraces = false) {r : Int32 × MS} (S : MS) (a1 : Int32) (a2 : Int32) (hf : fX9_flooded S a1 a2 = some r) : CT yX9_flooded MX9_flooded rmX9_flooded l g [.ref mo, .int a1, .int a2] (moE g mo sz S) (.inl (some (.int r.1))) (moE g mo sz r.2) := by
  rw [fX9_flooded] at hf
  refine CT.of (lv0 := [(0, .ref mo), (1, .int a1), (2, .int a2)]) (by decide +kernel) rfl rfl (Nat.le_of_ble_eq_true rfl) rfl hl ?_
  refine aw_aload_n 0 dX9_flooded_0 rfl ?_
  refine aw_iload_n 1 dX9_flooded_1 rfl ?_
  refine aw_iload_n 2 dX9_flooded_2 rfl ?_
  obtain ⟨q1, hq1, hf⟩ := xbind hf
  refine aw_callV 7 (some mo) [.int a1, .int a2] 2 rfl mo_ob rfl rfl (ctX9_libertiesOf hl _ _ _ hq1) ⟨wl5 (i := 164) rfl rfl, ciX9_libertiesOf⟩ (wl5 (i := 166) rfl rfl) (wl0 (i := 38) rfl rfl) dX9_flooded_3 rfl rfl (Nat.le_of_ble_eq_true rfl) ⟨Nat.le_of_ble_eq_true rfl, Nat.le_of_ble_eq_true rfl⟩ ⟨Nat.le_of_ble_eq_true rfl, Nat.le_of_ble_eq_true rfl⟩ ?_
  cases hf
  exact aw_iret dX9_flooded_6 rfl rfl rfl ⟨Nat.le_of_ble_eq_true rfl, Nat.le_of_ble_eq_true rfl⟩
abbrev MX9_isPlayer : xM := (RX9, cX9_isPlayer, 2, (some .boolean), "isPlayer")
abbrev rmX9_isPlayer : Room := { frames := 1, cells := 0, slots := 0, locals := 22 }
theorem ciX9_isPlayer : Cond.code yX9_isPlayer cX9_isPlayer 2 (some .boolean) ∈ wt ∧ Cond.initialized yX9_isPlayer.cls ∈ wt ∧ (yX9_isPlayer.cls ≠ "java/lang/invoke/MethodHandle" ∧ yX9_isPlayer.cls ≠ "java/lang/invoke/VarHandle" ∧ (parseMethodDescriptor yX9_isPlayer.desc).map (fun d => d.parameters.length) = some 1) := ⟨wl5 (i := 27) rfl rfl, wl1 (i := 4) rfl rfl, by decide +kernel, by decide +kernel, by decide +kernel⟩
def fX9_isPlayer (S : MS) (a1 : Int32) : Option (Bool) :=
  (fX9_isIn a1 (0 : Int32) ((m_i S 0) - (1 : Int32))).bind fun q1 => some q1
set_option maxHeartbeats 4000000 in
set_option maxRecDepth 100000 in
theorem ctX9_isPlayer {l : Launch} {g : xG} {mo sz : Nat} (hl : l.stackTraces = false) {r : Bool} (S : MS) (a1 : Int32) (hf : fX9_isPlayer S a1 = some r) : CT yX9_isPlayer MX9_isPlayer rmX9_isPlayer l g [.ref mo, .int a1] (moE g mo sz S) (.inl (some (.int (bi r)))) (moE g mo sz S) := by
  rw [fX9_isPlayer] at hf
  refine CT.of (lv0 := [(0, .ref mo), (1, .int a1)]) (by decide +kernel) rfl rfl (Nat.le_of_ble_eq_true rfl) rfl hl ?_
  refine aw_iload_n 1 dX9_isPlayer_0 rfl ?_
  refine aw_iconst (0 : Int32) dX9_isPlayer_1 (by decide) ?_
  refine aw_aload_n 0 dX9_isPlayer_2 rfl ?_
  refine mo_getI 0 rfl (by decide) (wl4 (i := 98) rfl rfl) dX9_isPlayer_3 ?_
  refine aw_iconst (1 : Int32) dX9_isPlayer_6 (by decide) ?_
  refine aw_isub dX9_isPlayer_7 ?_
  obtain ⟨q1, hq1, hf⟩ := xbind hf
  refine aw_callS [.int a1, .int (0 : Int32), .int ((m_i S 0) - (1 : Int32))] 3 (ctX9_isIn hl _ _ _ hq1) ⟨wl5 (i := 13) rfl rfl, ciX9_isIn⟩ (wl5 (i := 14) rfl rfl) dX9_isPlayer_8 rfl rfl (Nat.le_of_ble_eq_true rfl) ⟨Nat.le_of_ble_eq_true rfl, Nat.le_of_ble_eq_true rfl⟩ ⟨Nat.le_of_ble_eq_true rfl, Nat.le_of_ble_eq_true rfl⟩ ?_
  cases hf
  exact aw_zret dX9_isPlayer_11 rfl (nar_b _) rfl rfl ⟨Nat.le_of_ble_eq_true rfl, Nat.le_of_ble_eq_true rfl⟩
abbrev MX9_plays : xM := (RX9, cX9_plays, 4, (some .boolean), "plays")
abbrev rmX9_plays : Room := { frames := 0, cells := 0, slots := 0, locals := 0 }
theorem ciX9_plays : Cond.code yX9_plays cX9_plays 4 (some .boolean) ∈ wt ∧ Cond.initialized yX9_plays.cls ∈ wt ∧ (yX9_plays.cls ≠ "java/lang/invoke/MethodHandle" ∧ yX9_plays.cls ≠ "java/lang/invoke/VarHandle" ∧ (parseMethodDescriptor yX9_plays.desc).map (fun d => d.parameters.length) = some 1) := ⟨wl5 (i := 35) rfl rfl, wl1 (i := 4) rfl rfl, by decide +kernel, by decide +kernel, by decide +kernel⟩
def fX9_plays_50 (k4 : MS → Int32 → Int32 → Int32 → Option (Bool)) (S : MS) (a1 : Int32) (a3 : Int32) (s0 : Int32) : Option (Bool) :=
  k4 S a1 s0 (a3 + (1 : Int32))
set_option maxHeartbeats 4000000 in
set_option maxRecDepth 100000 in
theorem wkX9_plays_50 {l : Launch} {g : xG} {x0 : xV} {mo sz : Nat} (hl : l.stackTraces = false) {r : Bool} (k4 : MS → Int32 → Int32 → Int32 → Option (Bool)) (hk4 : ∀ (S : MS) (a1 : Int32) (a2 : Int32) (a3 : Int32), k4 S a1 a2 a3 = some r → AW MX9_plays rmX9_plays l g x0 (.inl (some (.int (bi r)))) (moE g mo sz S) 0 0 (moE g mo sz S) 4 [(0, .ref mo), (1, .int a1), (2, .int a2), (3, .int a3)] []) (S : MS) (a1 : Int32) (a3 : Int32) (s0 : Int32) (hf : fX9_plays_50 k4 S a1 a3 s0 = some r) : AW MX9_plays rmX9_plays l g x0 (.inl (some (.int (bi r)))) (moE g mo sz S) 0 0 (moE g mo sz S) 50 [(0, .ref mo), (1, .int a1), (3, .int a3)] [.int s0] := by
  rw [fX9_plays_50] at hf
  refine aw_istore_n [(2, .int s0), (0, .ref mo), (1, .int a1), (3, .int a3)] dX9_plays_50 rfl (by decide) rfl ?_
  refine aw_iinc [(3, .int (a3 + (1 : Int32))), (2, .int s0), (0, .ref mo), (1, .int a1)] 3 dX9_plays_51 rfl rfl (by decide) rfl ?_
  refine aw_goto 4 dX9_plays_54 (by decide) ?_
  refine aw_lv [2, 3, 1, 0] rfl ?_
  exact hk4 _ _ _ _ hf
def fX9_plays_4 : Nat → MS → Int32 → Int32 → Int32 → Option (Bool)
  | 0, _, _, _, _ => none
  | n + 1, S, a1, a2, a3 =>
    (if (m_i S 4) ≤ a3 then xbool a2 else (if a2 = 0 then (if xin a3 16 = true then (if (m_I S 8 a3.toNatClampNeg) = 0 then (if (m_I S 3 a3.toNatClampNeg) = a1 then fX9_plays_50 (fX9_plays_4 n) S a1 a3 (1 : Int32) else (if (m_I S 4 a3.toNatClampNeg) = a1 then fX9_plays_50 (fX9_plays_4 n) S a1 a3 (1 : Int32) else fX9_plays_50 (fX9_plays_4 n) S a1 a3 (0 : Int32))) else fX9_plays_50 (fX9_plays_4 n) S a1 a3 (0 : Int32)) else none) else fX9_plays_50 (fX9_plays_4 n) S a1 a3 (1 : Int32)))
set_option maxHeartbeats 4000000 in
set_option maxRecDepth 100000 in
theorem wkX9_plays_4 {l : Launch} {g : xG} {x0 : xV} {mo sz : Nat} (hl : l.stackTraces = false) {r : Bool} : ∀ (n : Nat) (S : MS) (a1 : Int32) (a2 : Int32) (a3 : Int32), fX9_plays_4 n S a1 a2 a3 = some r → AW MX9_plays rmX9_plays l g x0 (.inl (some (.int (bi r)))) (moE g mo sz S) 0 0 (moE g mo sz S) 4 [(0, .ref mo), (1, .int a1), (2, .int a2), (3, .int a3)] [] := by
  intro n
  induction n with
  | zero => intro S a1 a2 a3 hf; exact absurd hf (by simp [fX9_plays_4])
  | succ n hk4 =>
    intro S a1 a2 a3 hf
    rw [fX9_plays_4] at hf
    refine aw_iload_n 3 dX9_plays_4 rfl ?_
    refine aw_aload_n 0 dX9_plays_5 rfl ?_
    refine mo_getI 4 rfl (by decide) (wl4 (i := 102) rfl rfl) dX9_plays_6 ?_
    refine aw_icmp_ge 57 dX9_plays_9 (by decide) (fun c1 => ?_) (fun c1 => ?_)
    · rw [if_pos c1] at hf
      refine aw_iload_n 2 dX9_plays_57 rfl ?_
      exact aw_zretb dX9_plays_58 rfl hf rfl rfl ⟨Nat.le_of_ble_eq_true rfl, Nat.le_of_ble_eq_true rfl⟩
    · rw [if_neg c1] at hf
      refine aw_iload_n 2 dX9_plays_12 rfl ?_
      refine aw_if_ne 45 dX9_plays_13 (by decide) (fun c2 => ?_) (fun c2 => ?_)
      · rw [if_neg c2] at hf
        refine aw_iconst (1 : Int32) dX9_plays_45 (by decide) ?_
        refine aw_goto 50 dX9_plays_46 (by decide) ?_
        refine aw_lv [0, 1, 3] rfl ?_
        exact wkX9_plays_50 hl _ hk4 _ _ _ _ hf
      · rw [if_pos c2] at hf
        refine aw_aload_n 0 dX9_plays_16 rfl ?_
        refine mo_getR 10 8 rfl (by decide) (wl4 (i := 108) rfl rfl) dX9_plays_17 ?_
        refine aw_iload_n 3 dX9_plays_20 rfl ?_
        obtain ⟨hi3, hf⟩ := xifn hf
        refine mo_iald 8 16 rfl (xin_v hi3) dX9_plays_21 ?_
        refine aw_if_ne 49 dX9_plays_22 (by decide) (fun c4 => ?_) (fun c4 => ?_)
        · rw [if_neg c4] at hf
          refine aw_iconst (0 : Int32) dX9_plays_49 (by decide) ?_
          refine aw_lv [0, 1, 3] rfl ?_
          exact wkX9_plays_50 hl _ hk4 _ _ _ _ hf
        · rw [if_pos c4] at hf
          refine aw_aload_n 0 dX9_plays_25 rfl ?_
          refine mo_getR 5 3 rfl (by decide) (wl4 (i := 103) rfl rfl) dX9_plays_26 ?_
          refine aw_iload_n 3 dX9_plays_29 rfl ?_
          refine mo_iald 3 16 rfl (xin_v hi3) dX9_plays_30 ?_
          refine aw_iload_n 1 dX9_plays_31 rfl ?_
          refine aw_icmp_eq 45 dX9_plays_32 (by decide) (fun c5 => ?_) (fun c5 => ?_)
          · rw [if_pos c5] at hf
            refine aw_iconst (1 : Int32) dX9_plays_45 (by decide) ?_
            refine aw_goto 50 dX9_plays_46 (by decide) ?_
            refine aw_lv [0, 1, 3] rfl ?_
            exact wkX9_plays_50 hl _ hk4 _ _ _ _ hf
          · rw [if_neg c5] at hf
            refine aw_aload_n 0 dX9_plays_35 rfl ?_
            refine mo_getR 6 4 rfl (by decide) (wl4 (i := 104) rfl rfl) dX9_plays_36 ?_
            refine aw_iload_n 3 dX9_plays_39 rfl ?_
            refine mo_iald 4 16 rfl (xin_v hi3) dX9_plays_40 ?_
            refine aw_iload_n 1 dX9_plays_41 rfl ?_
            refine aw_icmp_ne 49 dX9_plays_42 (by decide) (fun c6 => ?_) (fun c6 => ?_)
            · rw [if_neg c6] at hf
              refine aw_iconst (0 : Int32) dX9_plays_49 (by decide) ?_
              refine aw_lv [0, 1, 3] rfl ?_
              exact wkX9_plays_50 hl _ hk4 _ _ _ _ hf
            · rw [if_pos c6] at hf
              refine aw_iconst (1 : Int32) dX9_plays_45 (by decide) ?_
              refine aw_goto 50 dX9_plays_46 (by decide) ?_
              refine aw_lv [0, 1, 3] rfl ?_
              exact wkX9_plays_50 hl _ hk4 _ _ _ _ hf
def fX9_plays (S : MS) (a1 : Int32) : Option (Bool) :=
  fX9_plays_4 FU S a1 (0 : Int32) (0 : Int32)
set_option maxHeartbeats 4000000 in
set_option maxRecDepth 100000 in
theorem ctX9_plays {l : Launch} {g : xG} {mo sz : Nat} (hl : l.stackTraces = false) {r : Bool} (S : MS) (a1 : Int32) (hf : fX9_plays S a1 = some r) : CT yX9_plays MX9_plays rmX9_plays l g [.ref mo, .int a1] (moE g mo sz S) (.inl (some (.int (bi r)))) (moE g mo sz S) := by
  rw [fX9_plays] at hf
  refine CT.of (lv0 := [(0, .ref mo), (1, .int a1)]) (by decide +kernel) rfl rfl (Nat.le_of_ble_eq_true rfl) rfl hl ?_
  refine aw_iconst (0 : Int32) dX9_plays_0 (by decide) ?_
  refine aw_istore_n [(2, .int (0 : Int32)), (0, .ref mo), (1, .int a1)] dX9_plays_1 rfl (by decide) rfl ?_
  refine aw_iconst (0 : Int32) dX9_plays_2 (by decide) ?_
  refine aw_istore_n [(3, .int (0 : Int32)), (2, .int (0 : Int32)), (0, .ref mo), (1, .int a1)] dX9_plays_3 rfl (by decide) rfl ?_
  refine aw_lv [2, 3, 1, 0] rfl ?_
  exact wkX9_plays_4 hl _ _ _ _ _ hf
abbrev MX9_stones : xM := (RX9, cX9_stones, 3, (some .long), "stones")
abbrev rmX9_stones : Room := { frames := 1, cells := 0, slots := 0, locals := 20 }
theorem ciX9_stones : Cond.code yX9_stones cX9_stones 3 (some .long) ∈ wt ∧ Cond.initialized yX9_stones.cls ∈ wt ∧ (yX9_stones.cls ≠ "java/lang/invoke/MethodHandle" ∧ yX9_stones.cls ≠ "java/lang/invoke/VarHandle" ∧ (parseMethodDescriptor yX9_stones.desc).map (fun d => d.parameters.length) = some 1) := ⟨wl5 (i := 50) rfl rfl, wl1 (i := 4) rfl rfl, by decide +kernel, by decide +kernel, by decide +kernel⟩
def fX9_stones_46 (a0 : Int32) (s0 : Int64) (s1 : Int64) : Option (Int64) :=
  (if (2 : Int32) ≤ a0 then (if a0 ≤ (3 : Int32) then some (s0 ||| s1) else (fX9_bit (30 : Int32)).bind fun q3 => some ((s0 ||| s1) ||| q3)) else some (0 : Int64))
set_option maxHeartbeats 4000000 in
set_option maxRecDepth 100000 in
theorem wkX9_stones_46 {l : Launch} {g : xG} {x0 : xV} {mo sz : Nat} {S : MS} (hl : l.stackTraces = false) {r : Int64} (a0 : Int32) (s0 : Int64) (s1 : Int64) (hf : fX9_stones_46 a0 s0 s1 = some r) : AW MX9_stones rmX9_stones l g x0 (.inl (some (.long r))) (moE g mo sz S) 0 0 (moE g mo sz S) 46 [(0, .int a0)] [.long s1, .long s0] := by
  rw [fX9_stones_46] at hf
  refine aw_lor dX9_stones_46 ?_
  refine aw_lstore_n [(1, .long (s0 ||| s1)), (0, .int a0)] dX9_stones_47 rfl (by decide) rfl ?_
  refine aw_iload_n 1 dX9_stones_48 rfl ?_
  refine aw_iconst (2 : Int32) dX9_stones_49 (by decide) ?_
  refine aw_icmp_ge 57 dX9_stones_50 (by decide) (fun c1 => ?_) (fun c1 => ?_)
  · rw [if_pos c1] at hf
    refine aw_iload_n 1 dX9_stones_57 rfl ?_
    refine aw_iconst (3 : Int32) dX9_stones_58 (by decide) ?_
    refine aw_icmp_le 72 dX9_stones_59 (by decide) (fun c2 => ?_) (fun c2 => ?_)
    · rw [if_pos c2] at hf
      refine aw_lload_n 0 dX9_stones_72 rfl ?_
      cases hf
      exact aw_lret dX9_stones_73 rfl rfl rfl ⟨Nat.le_of_ble_eq_true rfl, Nat.le_of_ble_eq_true rfl⟩
    · rw [if_neg c2] at hf
      refine aw_lload_n 0 dX9_stones_62 rfl ?_
      refine aw_bipush (30 : Int32) dX9_stones_63 (by decide) ?_
      obtain ⟨q3, hq3, hf⟩ := xbind hf
      refine aw_callS [.int (30 : Int32)] 1 (ctX9_bit hl _ hq3) ⟨wl5 (i := 51) rfl rfl, ciX9_bit⟩ (wl5 (i := 52) rfl rfl) dX9_stones_65 rfl rfl (Nat.le_of_ble_eq_true rfl) ⟨Nat.le_of_ble_eq_true rfl, Nat.le_of_ble_eq_true rfl⟩ ⟨Nat.le_of_ble_eq_true rfl, Nat.le_of_ble_eq_true rfl⟩ ?_
      refine aw_lor dX9_stones_68 ?_
      refine aw_goto 73 dX9_stones_69 (by decide) ?_
      cases hf
      exact aw_lret dX9_stones_73 rfl rfl rfl ⟨Nat.le_of_ble_eq_true rfl, Nat.le_of_ble_eq_true rfl⟩
  · rw [if_neg c1] at hf
    refine aw_lconst (0 : Int64) dX9_stones_53 (by decide) ?_
    refine aw_goto 73 dX9_stones_54 (by decide) ?_
    cases hf
    exact aw_lret dX9_stones_73 rfl rfl rfl ⟨Nat.le_of_ble_eq_true rfl, Nat.le_of_ble_eq_true rfl⟩
def fX9_stones_29 (a0 : Int32) (s0 : Int64) (s1 : Int64) : Option (Int64) :=
  (if a0 ≤ (2 : Int32) then fX9_stones_46 a0 (s0 ||| s1) (0 : Int64) else (fX9_bit (18 : Int32)).bind fun q2 => fX9_stones_46 a0 (s0 ||| s1) q2)
set_option maxHeartbeats 4000000 in
set_option maxRecDepth 100000 in
theorem wkX9_stones_29 {l : Launch} {g : xG} {x0 : xV} {mo sz : Nat} {S : MS} (hl : l.stackTraces = false) {r : Int64} (a0 : Int32) (s0 : Int64) (s1 : Int64) (hf : fX9_stones_29 a0 s0 s1 = some r) : AW MX9_stones rmX9_stones l g x0 (.inl (some (.long r))) (moE g mo sz S) 0 0 (moE g mo sz S) 29 [(0, .int a0)] [.long s1, .long s0] := by
  rw [fX9_stones_29] at hf
  refine aw_lor dX9_stones_29 ?_
  refine aw_lstore_n [(1, .long (s0 ||| s1)), (0, .int a0)] dX9_stones_30 rfl (by decide) rfl ?_
  refine aw_lload_n 0 dX9_stones_31 rfl ?_
  refine aw_iload_n 1 dX9_stones_32 rfl ?_
  refine aw_iconst (2 : Int32) dX9_stones_33 (by decide) ?_
  refine aw_icmp_le 45 dX9_stones_34 (by decide) (fun c1 => ?_) (fun c1 => ?_)
  · rw [if_pos c1] at hf
    refine aw_lconst (0 : Int64) dX9_stones_45 (by decide) ?_
    refine aw_lv [1] rfl ?_
    exact wkX9_stones_46 hl _ _ _ hf
  · rw [if_neg c1] at hf
    refine aw_bipush (18 : Int32) dX9_stones_37 (by decide) ?_
    obtain ⟨q2, hq2, hf⟩ := xbind hf
    refine aw_callS [.int (18 : Int32)] 1 (ctX9_bit hl _ hq2) ⟨wl5 (i := 51) rfl rfl, ciX9_bit⟩ (wl5 (i := 52) rfl rfl) dX9_stones_39 rfl rfl (Nat.le_of_ble_eq_true rfl) ⟨Nat.le_of_ble_eq_true rfl, Nat.le_of_ble_eq_true rfl⟩ ⟨Nat.le_of_ble_eq_true rfl, Nat.le_of_ble_eq_true rfl⟩ ?_
    refine aw_goto 46 dX9_stones_42 (by decide) ?_
    refine aw_lv [1] rfl ?_
    exact wkX9_stones_46 hl _ _ _ hf
def fX9_stones_13 (a0 : Int32) (s0 : Int64) : Option (Int64) :=
  (if a0 ≤ (1 : Int32) then fX9_stones_29 a0 s0 (0 : Int64) else (fX9_bit (32 : Int32)).bind fun q2 => fX9_stones_29 a0 s0 q2)
set_option maxHeartbeats 4000000 in
set_option maxRecDepth 100000 in
theorem wkX9_stones_13 {l : Launch} {g : xG} {x0 : xV} {mo sz : Nat} {S : MS} (hl : l.stackTraces = false) {r : Int64} (a0 : Int32) (s0 : Int64) (hf : fX9_stones_13 a0 s0 = some r) : AW MX9_stones rmX9_stones l g x0 (.inl (some (.long r))) (moE g mo sz S) 0 0 (moE g mo sz S) 13 [(0, .int a0)] [.long s0] := by
  rw [fX9_stones_13] at hf
  refine aw_lstore_n [(1, .long s0), (0, .int a0)] dX9_stones_13 rfl (by decide) rfl ?_
  refine aw_lload_n 0 dX9_stones_14 rfl ?_
  refine aw_iload_n 1 dX9_stones_15 rfl ?_
  refine aw_iconst (1 : Int32) dX9_stones_16 (by decide) ?_
  refine aw_icmp_le 28 dX9_stones_17 (by decide) (fun c1 => ?_) (fun c1 => ?_)
  · rw [if_pos c1] at hf
    refine aw_lconst (0 : Int64) dX9_stones_28 (by decide) ?_
    refine aw_lv [1] rfl ?_
    exact wkX9_stones_29 hl _ _ _ hf
  · rw [if_neg c1] at hf
    refine aw_bipush (32 : Int32) dX9_stones_20 (by decide) ?_
    obtain ⟨q2, hq2, hf⟩ := xbind hf
    refine aw_callS [.int (32 : Int32)] 1 (ctX9_bit hl _ hq2) ⟨wl5 (i := 51) rfl rfl, ciX9_bit⟩ (wl5 (i := 52) rfl rfl) dX9_stones_22 rfl rfl (Nat.le_of_ble_eq_true rfl) ⟨Nat.le_of_ble_eq_true rfl, Nat.le_of_ble_eq_true rfl⟩ ⟨Nat.le_of_ble_eq_true rfl, Nat.le_of_ble_eq_true rfl⟩ ?_
    refine aw_goto 29 dX9_stones_25 (by decide) ?_
    refine aw_lv [1] rfl ?_
    exact wkX9_stones_29 hl _ _ _ hf
def fX9_stones (a0 : Int32) : Option (Int64) :=
  (if a0 ≤ 0 then fX9_stones_13 a0 (0 : Int64) else (fX9_bit (16 : Int32)).bind fun q2 => fX9_stones_13 a0 q2)
set_option maxHeartbeats 4000000 in
set_option maxRecDepth 100000 in
theorem ctX9_stones {l : Launch} {g : xG} {mo sz : Nat} {S : MS} (hl : l.stackTraces = false) {r : Int64} (a0 : Int32) (hf : fX9_stones a0 = some r) : CT yX9_stones MX9_stones rmX9_stones l g [.int a0] (moE g mo sz S) (.inl (some (.long r))) (moE g mo sz S) := by
  rw [fX9_stones] at hf
  refine CT.of (lv0 := [(0, .int a0)]) (by decide +kernel) rfl rfl (Nat.le_of_ble_eq_true rfl) rfl hl ?_
  refine aw_iload_n 0 dX9_stones_0 rfl ?_
  refine aw_if_le 12 dX9_stones_1 (by decide) (fun c1 => ?_) (fun c1 => ?_)
  · rw [if_pos c1] at hf
    refine aw_lconst (0 : Int64) dX9_stones_12 (by decide) ?_
    refine aw_lv [0] rfl ?_
    exact wkX9_stones_13 hl _ _ hf
  · rw [if_neg c1] at hf
    refine aw_bipush (16 : Int32) dX9_stones_4 (by decide) ?_
    obtain ⟨q2, hq2, hf⟩ := xbind hf
    refine aw_callS [.int (16 : Int32)] 1 (ctX9_bit hl _ hq2) ⟨wl5 (i := 51) rfl rfl, ciX9_bit⟩ (wl5 (i := 52) rfl rfl) dX9_stones_6 rfl rfl (Nat.le_of_ble_eq_true rfl) ⟨Nat.le_of_ble_eq_true rfl, Nat.le_of_ble_eq_true rfl⟩ ⟨Nat.le_of_ble_eq_true rfl, Nat.le_of_ble_eq_true rfl⟩ ?_
    refine aw_goto 13 dX9_stones_9 (by decide) ?_
    refine aw_lv [0] rfl ?_
    exact wkX9_stones_13 hl _ _ hf
abbrev MX9_keeps : xM := (RX9, cX9_keeps, 6, (some .int), "keeps")
abbrev rmX9_keeps : Room := { frames := 0, cells := 0, slots := 0, locals := 0 }
theorem ciX9_keeps : Cond.code yX9_keeps cX9_keeps 6 (some .int) ∈ wt ∧ Cond.initialized yX9_keeps.cls ∈ wt ∧ (yX9_keeps.cls ≠ "java/lang/invoke/MethodHandle" ∧ yX9_keeps.cls ≠ "java/lang/invoke/VarHandle" ∧ (parseMethodDescriptor yX9_keeps.desc).map (fun d => d.parameters.length) = some 3) := ⟨wl5 (i := 57) rfl rfl, wl1 (i := 4) rfl rfl, by decide +kernel, by decide +kernel, by decide +kernel⟩
def fX9_keeps (S : MS) (a1 : Int64) (a3 : Int64) (a5 : Int32) : Option (Int32 × MS) :=
  (if xin (m_i S 21) 4096 = true then (if xin (m_i (ms_J S 18 (m_i S 21).toNatClampNeg a1) 21) 4096 = true then (some (ms_J (ms_J S 18 (m_i S 21).toNatClampNeg a1) 19 (m_i (ms_J S 18 (m_i S 21).toNatClampNeg a1) 21).toNatClampNeg a3)).bind fun W3 => (if xin (m_i W3 21) 4096 = true then (some (ms_i (ms_I W3 20 (m_i W3 21).toNatClampNeg a5) 21 ((m_i (ms_I W3 20 (m_i W3 21).toNatClampNeg a5) 21) + (1 : Int32)))).bind fun W5 => some (((m_i W5 21) - (1 : Int32)), W5) else none) else none) else none)
set_option maxHeartbeats 4000000 in
set_option maxRecDepth 100000 in
theorem ctX9_keeps {l : Launch} {g : xG} {mo sz : Nat} (hl : l.stackTraces = false) {r : Int32 × MS} (S : MS) (a1 : Int64) (a3 : Int64) (a5 : Int32) (hf : fX9_keeps S a1 a3 a5 = some r) : CT yX9_keeps MX9_keeps rmX9_keeps l g [.ref mo, .long a1, .long a3, .int a5] (moE g mo sz S) (.inl (some (.int r.1))) (moE g mo sz r.2) := by
  rw [fX9_keeps] at hf
  refine CT.of (lv0 := [(0, .ref mo), (1, .long a1), (3, .long a3), (5, .int a5)]) (by decide +kernel) rfl rfl (Nat.le_of_ble_eq_true rfl) rfl hl ?_
  refine aw_aload_n 0 dX9_keeps_0 rfl ?_
  refine mo_getR 22 18 rfl (by decide) (wl4 (i := 120) rfl rfl) dX9_keeps_1 ?_
  refine aw_aload_n 0 dX9_keeps_4 rfl ?_
  refine mo_getI 21 rfl (by decide) (wl4 (i := 119) rfl rfl) dX9_keeps_5 ?_
  refine aw_lload_n 1 dX9_keeps_8 rfl ?_
  obtain ⟨hi1, hf⟩ := xifn hf
  refine mo_last 18 4096 rfl (xin_v hi1) dX9_keeps_9 ?_
  refine aw_aload_n 0 dX9_keeps_10 rfl ?_
  refine mo_getR 23 19 rfl (by decide) (wl4 (i := 121) rfl rfl) dX9_keeps_11 ?_
  refine aw_aload_n 0 dX9_keeps_14 rfl ?_
  refine mo_getI 21 rfl (by decide) (wl4 (i := 119) rfl rfl) dX9_keeps_15 ?_
  refine aw_lload_n 2 dX9_keeps_18 rfl ?_
  obtain ⟨hi2, hf⟩ := xifn hf
  obtain ⟨W3, hW3, hf⟩ := xlet hf
  refine mo_last 19 4096 rfl (xin_v hi2) dX9_keeps_19 ?_
  rw [hW3]
  refine aw_aload_n 0 dX9_keeps_20 rfl ?_
  refine mo_getR 24 20 rfl (by decide) (wl4 (i := 122) rfl rfl) dX9_keeps_21 ?_
  refine aw_aload_n 0 dX9_keeps_24 rfl ?_
  refine mo_getI 21 rfl (by decide) (wl4 (i := 119) rfl rfl) dX9_keeps_25 ?_
  refine aw_iload 3 dX9_keeps_28 rfl ?_
  obtain ⟨hi4, hf⟩ := xifn hf
  refine mo_iast 20 4096 rfl (xin_v hi4) dX9_keeps_30 ?_
  refine aw_aload_n 0 dX9_keeps_31 rfl ?_
  refine aw_dup dX9_keeps_32 rfl ?_
  refine mo_getI 21 rfl (by decide) (wl4 (i := 119) rfl rfl) dX9_keeps_33 ?_
  refine aw_iconst (1 : Int32) dX9_keeps_36 (by decide) ?_
  refine aw_iadd dX9_keeps_37 ?_
  obtain ⟨W5, hW5, hf⟩ := xlet hf
  refine mo_putI 21 rfl (by decide) rfl rfl rfl rfl (wl4 (i := 119) rfl rfl) dX9_keeps_38 ?_
  rw [hW5]
  refine aw_aload_n 0 dX9_keeps_41 rfl ?_
  refine mo_getI 21 rfl (by decide) (wl4 (i := 119) rfl rfl) dX9_keeps_42 ?_
  refine aw_iconst (1 : Int32) dX9_keeps_45 (by decide) ?_
  refine aw_isub dX9_keeps_46 ?_
  cases hf
  exact aw_iret dX9_keeps_47 rfl rfl rfl ⟨Nat.le_of_ble_eq_true rfl, Nat.le_of_ble_eq_true rfl⟩
