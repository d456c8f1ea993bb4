abbrev MX9_wasThere : xM := (RX9, cX9_wasThere, 8, (some .boolean), "wasThere")
abbrev rmX9_wasThere : Room := { frames := 0, cells := 0, slots := 0, locals := 0 }
theorem ciX9_wasThere : Cond.code yX9_wasThere cX9_wasThere 8 (some .boolean) ∈ wt ∧ Cond.initialized yX9_wasThere.cls ∈ wt ∧ (yX9_wasThere.cls ≠ "java/lang/invoke/MethodHandle" ∧ yX9_wasThere.cls ≠ "java/lang/invoke/VarHandle" ∧ (parseMethodDescriptor yX9_wasThere.desc).map (fun d => d.parameters.length) = some 3) := ⟨wl5 (i := 107) rfl rfl, wl1 (i := 4) rfl rfl, by decide +kernel, by decide +kernel, by decide +kernel⟩
def fX9_wasThere_47 (k6 : MS → Int64 → Int64 → Int32 → Int32 → Option (Bool)) (S : MS) (a2 : Int64) (a4 : Int64) (a7 : Int32) (s0 : Int32) : Option (Bool) :=
  (if xin a7 4096 = true then k6 S a2 a4 s0 (m_I S 20 a7.toNatClampNeg) else none)
set_option maxHeartbeats 4000000 in
set_option maxRecDepth 100000 in
theorem wkX9_wasThere_47 {l : Launch} {g : xG} {x0 : xV} {mo sz : Nat} (hl : l.stackTraces = false) {r : Bool} (k6 : MS → Int64 → Int64 → Int32 → Int32 → Option (Bool)) (hk6 : ∀ (S : MS) (a2 : Int64) (a4 : Int64) (a6 : Int32) (a7 : Int32), k6 S a2 a4 a6 a7 = some r → AW MX9_wasThere rmX9_wasThere l g x0 (.inl (some (.int (bi r)))) (moE g mo sz S) 0 0 (moE g mo sz S) 6 [(0, .ref mo), (2, .long a2), (4, .long a4), (6, .int a6), (7, .int a7)] []) (S : MS) (a2 : Int64) (a4 : Int64) (a7 : Int32) (s0 : Int32) (hf : fX9_wasThere_47 k6 S a2 a4 a7 s0 = some r) : AW MX9_wasThere rmX9_wasThere l g x0 (.inl (some (.int (bi r)))) (moE g mo sz S) 0 0 (moE g mo sz S) 47 [(0, .ref mo), (2, .long a2), (4, .long a4), (7, .int a7)] [.int s0] := by
  rw [fX9_wasThere_47] at hf
  refine aw_istore [(6, .int s0), (0, .ref mo), (2, .long a2), (4, .long a4), (7, .int a7)] dX9_wasThere_47 (by decide) rfl ?_
  refine aw_aload_n 1 dX9_wasThere_49 rfl ?_
  refine mo_getR 24 20 rfl (by decide) (wl4 (i := 122) rfl rfl) dX9_wasThere_50 ?_
  refine aw_iload 4 dX9_wasThere_53 rfl ?_
  obtain ⟨hi1, hf⟩ := xifn hf
  refine mo_iald 20 4096 rfl (xin_v hi1) dX9_wasThere_55 ?_
  refine aw_istore [(7, .int (m_I S 20 a7.toNatClampNeg)), (6, .int s0), (0, .ref mo), (2, .long a2), (4, .long a4)] dX9_wasThere_56 (by decide) rfl ?_
  refine aw_goto 6 dX9_wasThere_58 (by decide) ?_
  refine aw_lv [2, 3, 4, 1, 0] rfl ?_
  exact hk6 _ _ _ _ _ hf
def fX9_wasThere_6 : Nat → MS → Int64 → Int64 → Int32 → Int32 → Option (Bool)
  | 0, _, _, _, _, _ => none
  | n + 1, S, a2, a4, a6, a7 =>
    (if a7 = (-1 : Int32) then xbool a6 else (if a6 = 0 then (if xin a7 4096 = true then (if (m_J S 18 a7.toNatClampNeg) = a2 then (if (m_J S 19 a7.toNatClampNeg) = a4 then fX9_wasThere_47 (fX9_wasThere_6 n) S a2 a4 a7 (1 : Int32) else fX9_wasThere_47 (fX9_wasThere_6 n) S a2 a4 a7 (0 : Int32)) else fX9_wasThere_47 (fX9_wasThere_6 n) S a2 a4 a7 (0 : Int32)) else none) else fX9_wasThere_47 (fX9_wasThere_6 n) S a2 a4 a7 (1 : Int32)))
set_option maxHeartbeats 4000000 in
set_option maxRecDepth 100000 in
theorem wkX9_wasThere_6 {l : Launch} {g : xG} {x0 : xV} {mo sz : Nat} (hl : l.stackTraces = false) {r : Bool} : ∀ (n : Nat) (S : MS) (a2 : Int64) (a4 : Int64) (a6 : Int32) (a7 : Int32), fX9_wasThere_6 n S a2 a4 a6 a7 = some r → AW MX9_wasThere rmX9_wasThere l g x0 (.inl (some (.int (bi r)))) (moE g mo sz S) 0 0 (moE g mo sz S) 6 [(0, .ref mo), (2, .long a2), (4, .long a4), (6, .int a6), (7, .int a7)] [] := by
  intro n
  induction n with
  | zero => intro S a2 a4 a6 a7 hf; exact absurd hf (by simp [fX9_wasThere_6])
  | succ n hk6 =>
    intro S a2 a4 a6 a7 hf
    rw [fX9_wasThere_6] at hf
    refine aw_iload 4 dX9_wasThere_6 rfl ?_
    refine aw_iconst (-1 : Int32) dX9_wasThere_8 (by decide) ?_
    refine aw_icmp_eq 61 dX9_wasThere_9 (by decide) (fun c1 => ?_) (fun c1 => ?_)
    · rw [if_pos c1] at hf
      refine aw_iload 3 dX9_wasThere_61 rfl ?_
      exact aw_zretb dX9_wasThere_63 rfl hf rfl rfl ⟨Nat.le_of_ble_eq_true rfl, Nat.le_of_ble_eq_true rfl⟩
    · rw [if_neg c1] at hf
      refine aw_iload 3 dX9_wasThere_12 rfl ?_
      refine aw_if_ne 42 dX9_wasThere_14 (by decide) (fun c2 => ?_) (fun c2 => ?_)
      · rw [if_neg c2] at hf
        refine aw_iconst (1 : Int32) dX9_wasThere_42 (by decide) ?_
        refine aw_goto 47 dX9_wasThere_43 (by decide) ?_
        refine aw_lv [0, 1, 2, 4] rfl ?_
        exact wkX9_wasThere_47 hl _ hk6 _ _ _ _ _ hf
      · rw [if_pos c2] at hf
        refine aw_aload_n 0 dX9_wasThere_17 rfl ?_
        refine mo_getR 22 18 rfl (by decide) (wl4 (i := 120) rfl rfl) dX9_wasThere_18 ?_
        refine aw_iload 4 dX9_wasThere_21 rfl ?_
        obtain ⟨hi3, hf⟩ := xifn hf
        refine mo_lald 18 4096 rfl (xin_v hi3) dX9_wasThere_23 ?_
        refine aw_lload_n 1 dX9_wasThere_24 rfl ?_
        refine aw_lcmp_ne 46 dX9_wasThere_25 dX9_wasThere_26 (by decide) (fun c4 => ?_) (fun c4 => ?_)
        · rw [if_neg c4] at hf
          refine aw_iconst (0 : Int32) dX9_wasThere_46 (by decide) ?_
          refine aw_lv [0, 1, 2, 4] rfl ?_
          exact wkX9_wasThere_47 hl _ hk6 _ _ _ _ _ hf
        · rw [if_pos c4] at hf
          refine aw_aload_n 0 dX9_wasThere_29 rfl ?_
          refine mo_getR 23 19 rfl (by decide) (wl4 (i := 121) rfl rfl) dX9_wasThere_30 ?_
          refine aw_iload 4 dX9_wasThere_33 rfl ?_
          refine mo_lald 19 4096 rfl (xin_v hi3) dX9_wasThere_35 ?_
          refine aw_lload 2 dX9_wasThere_36 rfl ?_
          refine aw_lcmp_ne 46 dX9_wasThere_38 dX9_wasThere_39 (by decide) (fun c5 => ?_) (fun c5 => ?_)
          · rw [if_neg c5] at hf
            refine aw_iconst (0 : Int32) dX9_wasThere_46 (by decide) ?_
            refine aw_lv [0, 1, 2, 4] rfl ?_
            exact wkX9_wasThere_47 hl _ hk6 _ _ _ _ _ hf
          · rw [if_pos c5] at hf
            refine aw_iconst (1 : Int32) dX9_wasThere_42 (by decide) ?_
            refine aw_goto 47 dX9_wasThere_43 (by decide) ?_
            refine aw_lv [0, 1, 2, 4] rfl ?_
            exact wkX9_wasThere_47 hl _ hk6 _ _ _ _ _ hf
def fX9_wasThere (S : MS) (a1 : Int32) (a2 : Int64) (a4 : Int64) : Option (Bool) :=
  fX9_wasThere_6 FU S a2 a4 (0 : Int32) a1
set_option maxHeartbeats 4000000 in
set_option maxRecDepth 100000 in
theorem ctX9_wasThere {l : Launch} {g : xG} {mo sz : Nat} (hl : l.stackTraces = false) {r : Bool} (S : MS) (a1 : Int32) (a2 : Int64) (a4 : Int64) (hf : fX9_wasThere S a1 a2 a4 = some r) : CT yX9_wasThere MX9_wasThere rmX9_wasThere l g [.ref mo, .int a1, .long a2, .long a4] (moE g mo sz S) (.inl (some (.int (bi r)))) (moE g mo sz S) := by
  rw [fX9_wasThere] at hf
  refine CT.of (lv0 := [(0, .ref mo), (1, .int a1), (2, .long a2), (4, .long a4)]) (by decide +kernel) rfl rfl (Nat.le_of_ble_eq_true rfl) rfl hl ?_
  refine aw_iconst (0 : Int32) dX9_wasThere_0 (by decide) ?_
  refine aw_istore [(6, .int (0 : Int32)), (0, .ref mo), (1, .int a1), (2, .long a2), (4, .long a4)] dX9_wasThere_1 (by decide) rfl ?_
  refine aw_iload_n 2 dX9_wasThere_3 rfl ?_
  refine aw_istore [(7, .int a1), (6, .int (0 : Int32)), (0, .ref mo), (1, .int a1), (2, .long a2), (4, .long a4)] dX9_wasThere_4 (by decide) rfl ?_
  refine aw_lv [2, 4, 5, 1, 0] rfl ?_
  exact wkX9_wasThere_6 hl _ _ _ _ _ _ hf
abbrev MX9_canBranch : xM := (RX9, cX9_canBranch, 9, (some .boolean), "canBranch")
abbrev rmX9_canBranch : Room := { frames := 4, cells := 0, slots := 0, locals := 111 }
theorem ciX9_canBranch : Cond.code yX9_canBranch cX9_canBranch 9 (some .boolean) ∈ wt ∧ Cond.initialized yX9_canBranch.cls ∈ wt ∧ (yX9_canBranch.cls ≠ "java/lang/invoke/MethodHandle" ∧ yX9_canBranch.cls ≠ "java/lang/invoke/VarHandle" ∧ (parseMethodDescriptor yX9_canBranch.desc).map (fun d => d.parameters.length) = some 2) := ⟨wl6 (i := 25) rfl rfl, wl1 (i := 4) rfl rfl, by decide +kernel, by decide +kernel, by decide +kernel⟩
def fX9_canBranch_112 (k66 : MS → Int32 → Int32 → Int32 → Option (Bool × MS)) (S : MS) (a1 : Int32) (a8 : Int32) (s0 : Int32) : Option (Bool × MS) :=
  (if xin a8 60 = true then k66 S a1 s0 (m_I S 28 a8.toNatClampNeg) else none)
set_option maxHeartbeats 4000000 in
set_option maxRecDepth 100000 in
theorem wkX9_canBranch_112 {l : Launch} {g : xG} {x0 : xV} {mo sz : Nat} (hl : l.stackTraces = false) {r : Bool × MS} (k66 : MS → Int32 → Int32 → Int32 → Option (Bool × MS)) (hk66 : ∀ (S : MS) (a1 : Int32) (a7 : Int32) (a8 : Int32), k66 S a1 a7 a8 = some r → AW MX9_canBranch rmX9_canBranch l g x0 (.inl (some (.int (bi r.1)))) (moE g mo sz r.2) 0 0 (moE g mo sz S) 66 [(0, .ref mo), (1, .int a1), (7, .int a7), (8, .int a8)] []) (S : MS) (a1 : Int32) (a8 : Int32) (s0 : Int32) (hf : fX9_canBranch_112 k66 S a1 a8 s0 = some r) : AW MX9_canBranch rmX9_canBranch l g x0 (.inl (some (.int (bi r.1)))) (moE g mo sz r.2) 0 0 (moE g mo sz S) 112 [(0, .ref mo), (1, .int a1), (8, .int a8)] [.int s0] := by
  rw [fX9_canBranch_112] at hf
  refine aw_istore [(7, .int s0), (0, .ref mo), (1, .int a1), (8, .int a8)] dX9_canBranch_112 (by decide) rfl ?_
  refine aw_aload_n 1 dX9_canBranch_114 rfl ?_
  refine mo_getR 37 28 rfl (by decide) (wl4 (i := 135) rfl rfl) dX9_canBranch_115 ?_
  refine aw_iload 3 dX9_canBranch_118 rfl ?_
  obtain ⟨hi1, hf⟩ := xifn hf
  refine mo_iald 28 60 rfl (xin_v hi1) dX9_canBranch_120 ?_
  refine aw_istore [(8, .int (m_I S 28 a8.toNatClampNeg)), (7, .int s0), (0, .ref mo), (1, .int a1)] dX9_canBranch_121 (by decide) rfl ?_
  refine aw_goto 66 dX9_canBranch_123 (by decide) ?_
  refine aw_lv [2, 3, 1, 0] rfl ?_
  exact hk66 _ _ _ _ hf
def fX9_canBranch_66 : Nat → MS → Int32 → Int32 → Int32 → Option (Bool × MS)
  | 0, _, _, _, _ => none
  | n + 1, S, a1, a7, a8 =>
    (if a8 = (-1 : Int32) then (if xin a1 60 = true then (if (m_i S 28) = 0 then (if a7 = 0 then (if xin (m_I S 29 a1.toNatClampNeg) 60 = true then (fX9_position S (m_I S 31 (m_I S 29 a1.toNatClampNeg).toNatClampNeg) (m_I S 32 (m_I S 29 a1.toNatClampNeg).toNatClampNeg)).bind fun q6 => (fX9_wasThere S q6 (m_j S 25) (m_j S 26)).bind fun q7 => (if q7 = false then some (true, S) else some (false, S)) else none) else some (false, S)) else some (false, S)) else none) else (if a7 = 0 then (if xin a8 60 = true then (if (m_J S 34 a8.toNatClampNeg) = (m_j S 25) then (if (m_J S 35 a8.toNatClampNeg) = (m_j S 26) then fX9_canBranch_112 (fX9_canBranch_66 n) S a1 a8 (1 : Int32) else fX9_canBranch_112 (fX9_canBranch_66 n) S a1 a8 (0 : Int32)) else fX9_canBranch_112 (fX9_canBranch_66 n) S a1 a8 (0 : Int32)) else none) else fX9_canBranch_112 (fX9_canBranch_66 n) S a1 a8 (1 : Int32)))
set_option maxHeartbeats 4000000 in
set_option maxRecDepth 100000 in
theorem wkX9_canBranch_66 {l : Launch} {g : xG} {x0 : xV} {mo sz : Nat} (hl : l.stackTraces = false) {r : Bool × MS} : ∀ (n : Nat) (S : MS) (a1 : Int32) (a7 : Int32) (a8 : Int32), fX9_canBranch_66 n S a1 a7 a8 = some r → AW MX9_canBranch rmX9_canBranch l g x0 (.inl (some (.int (bi r.1)))) (moE g mo sz r.2) 0 0 (moE g mo sz S) 66 [(0, .ref mo), (1, .int a1), (7, .int a7), (8, .int a8)] [] := by
  intro n
  induction n with
  | zero => intro S a1 a7 a8 hf; exact absurd hf (by simp [fX9_canBranch_66])
  | succ n hk66 =>
    intro S a1 a7 a8 hf
    rw [fX9_canBranch_66] at hf
    refine aw_iload 3 dX9_canBranch_66 rfl ?_
    refine aw_iconst (-1 : Int32) dX9_canBranch_68 (by decide) ?_
    refine aw_icmp_eq 126 dX9_canBranch_69 (by decide) (fun c1 => ?_) (fun c1 => ?_)
    · rw [if_pos c1] at hf
      refine aw_aload_n 0 dX9_canBranch_126 rfl ?_
      refine mo_getR 38 29 rfl (by decide) (wl4 (i := 136) rfl rfl) dX9_canBranch_127 ?_
      refine aw_iload_n 1 dX9_canBranch_130 rfl ?_
      obtain ⟨hi2, hf⟩ := xifn hf
      refine mo_iald 29 60 rfl (xin_v hi2) dX9_canBranch_131 ?_
      refine aw_istore [(8, .int (m_I S 29 a1.toNatClampNeg)), (0, .ref mo), (1, .int a1), (7, .int a7)] dX9_canBranch_132 (by decide) rfl ?_
      refine aw_aload_n 1 dX9_canBranch_134 rfl ?_
      refine mo_getI 28 rfl (by decide) (wl4 (i := 126) rfl rfl) dX9_canBranch_135 ?_
      refine aw_if_ne 183 dX9_canBranch_138 (by decide) (fun c3 => ?_) (fun c3 => ?_)
      · rw [if_neg c3] at hf
        refine aw_iconst (0 : Int32) dX9_canBranch_183 (by decide) ?_
        cases hf
        exact aw_zret dX9_canBranch_184 rfl rfl rfl rfl ⟨Nat.le_of_ble_eq_true rfl, Nat.le_of_ble_eq_true rfl⟩
      · rw [if_pos c3] at hf
        refine aw_iload 3 dX9_canBranch_141 rfl ?_
        refine aw_if_ne 183 dX9_canBranch_143 (by decide) (fun c4 => ?_) (fun c4 => ?_)
        · rw [if_neg c4] at hf
          refine aw_iconst (0 : Int32) dX9_canBranch_183 (by decide) ?_
          cases hf
          exact aw_zret dX9_canBranch_184 rfl rfl rfl rfl ⟨Nat.le_of_ble_eq_true rfl, Nat.le_of_ble_eq_true rfl⟩
        · rw [if_pos c4] at hf
          refine aw_aload_n 1 dX9_canBranch_146 rfl ?_
          refine aw_aload_n 1 dX9_canBranch_147 rfl ?_
          refine aw_aload_n 1 dX9_canBranch_148 rfl ?_
          refine mo_getR 40 31 rfl (by decide) (wl4 (i := 138) rfl rfl) dX9_canBranch_149 ?_
          refine aw_iload 0 dX9_canBranch_152 rfl ?_
          obtain ⟨hi5, hf⟩ := xifn hf
          refine mo_iald 31 60 rfl (xin_v hi5) dX9_canBranch_154 ?_
          refine aw_aload_n 1 dX9_canBranch_155 rfl ?_
          refine mo_getR 41 32 rfl (by decide) (wl4 (i := 139) rfl rfl) dX9_canBranch_156 ?_
          refine aw_iload 0 dX9_canBranch_159 rfl ?_
          refine mo_iald 32 60 rfl (xin_v hi5) dX9_canBranch_161 ?_
          obtain ⟨q6, hq6, hf⟩ := xbind hf
          refine aw_callV 7 (some mo) [.int (m_I S 31 (m_I S 29 a1.toNatClampNeg).toNatClampNeg), .int (m_I S 32 (m_I S 29 a1.toNatClampNeg).toNatClampNeg)] 2 rfl mo_ob rfl rfl (ctX9_position hl _ _ _ hq6) ⟨wl6 (i := 2) rfl rfl, ciX9_position⟩ (wl6 (i := 4) rfl rfl) (wl0 (i := 49) rfl rfl) dX9_canBranch_162 rfl rfl (Nat.le_of_ble_eq_true rfl) ⟨Nat.le_of_ble_eq_true rfl, Nat.le_of_ble_eq_true rfl⟩ ⟨Nat.le_of_ble_eq_true rfl, Nat.le_of_ble_eq_true rfl⟩ ?_
          refine aw_aload_n 1 dX9_canBranch_165 rfl ?_
          refine mo_getJ 25 rfl (by decide) (wl4 (i := 123) rfl rfl) dX9_canBranch_166 ?_
          refine aw_aload_n 1 dX9_canBranch_169 rfl ?_
          refine mo_getJ 26 rfl (by decide) (wl4 (i := 124) rfl rfl) dX9_canBranch_170 ?_
          obtain ⟨q7, hq7, hf⟩ := xbind hf
          refine aw_callV 7 (some mo) [.int q6, .long (m_j S 25), .long (m_j S 26)] 3 rfl mo_ob rfl rfl (ctX9_wasThere hl _ _ _ _ hq7) ⟨wl5 (i := 104) rfl rfl, ciX9_wasThere⟩ (wl5 (i := 106) rfl rfl) (wl0 (i := 31) rfl rfl) dX9_canBranch_173 rfl rfl (Nat.le_of_ble_eq_true rfl) ⟨Nat.le_of_ble_eq_true rfl, Nat.le_of_ble_eq_true rfl⟩ ⟨Nat.le_of_ble_eq_true rfl, Nat.le_of_ble_eq_true rfl⟩ ?_
          refine aw_ifb_ne 183 dX9_canBranch_176 (by decide) (fun c8 => ?_) (fun c8 => ?_)
          · rw [if_neg c8] at hf
            refine aw_iconst (0 : Int32) dX9_canBranch_183 (by decide) ?_
            cases hf
            exact aw_zret dX9_canBranch_184 rfl rfl rfl rfl ⟨Nat.le_of_ble_eq_true rfl, Nat.le_of_ble_eq_true rfl⟩
          · rw [if_pos c8] at hf
            refine aw_iconst (1 : Int32) dX9_canBranch_179 (by decide) ?_
            refine aw_goto 184 dX9_canBranch_180 (by decide) ?_
            cases hf
            exact aw_zret dX9_canBranch_184 rfl rfl rfl rfl ⟨Nat.le_of_ble_eq_true rfl, Nat.le_of_ble_eq_true rfl⟩
    · rw [if_neg c1] at hf
      refine aw_iload 2 dX9_canBranch_72 rfl ?_
      refine aw_if_ne 107 dX9_canBranch_74 (by decide) (fun c9 => ?_) (fun c9 => ?_)
      · rw [if_neg c9] at hf
        refine aw_iconst (1 : Int32) dX9_canBranch_107 (by decide) ?_
        refine aw_goto 112 dX9_canBranch_108 (by decide) ?_
        refine aw_lv [0, 1, 3] rfl ?_
        exact wkX9_canBranch_112 hl _ hk66 _ _ _ _ hf
      · rw [if_pos c9] at hf
        refine aw_aload_n 0 dX9_canBranch_77 rfl ?_
        refine mo_getR 43 34 rfl (by decide) (wl4 (i := 141) rfl rfl) dX9_canBranch_78 ?_
        refine aw_iload 3 dX9_canBranch_81 rfl ?_
        obtain ⟨hi10, hf⟩ := xifn hf
        refine mo_lald 34 60 rfl (xin_v hi10) dX9_canBranch_83 ?_
        refine aw_aload_n 0 dX9_canBranch_84 rfl ?_
        refine mo_getJ 25 rfl (by decide) (wl4 (i := 123) rfl rfl) dX9_canBranch_85 ?_
        refine aw_lcmp_ne 111 dX9_canBranch_88 dX9_canBranch_89 (by decide) (fun c11 => ?_) (fun c11 => ?_)
        · rw [if_neg c11] at hf
          refine aw_iconst (0 : Int32) dX9_canBranch_111 (by decide) ?_
          refine aw_lv [0, 1, 3] rfl ?_
          exact wkX9_canBranch_112 hl _ hk66 _ _ _ _ hf
        · rw [if_pos c11] at hf
          refine aw_aload_n 0 dX9_canBranch_92 rfl ?_
          refine mo_getR 44 35 rfl (by decide) (wl4 (i := 142) rfl rfl) dX9_canBranch_93 ?_
          refine aw_iload 3 dX9_canBranch_96 rfl ?_
          refine mo_lald 35 60 rfl (xin_v hi10) dX9_canBranch_98 ?_
          refine aw_aload_n 0 dX9_canBranch_99 rfl ?_
          refine mo_getJ 26 rfl (by decide) (wl4 (i := 124) rfl rfl) dX9_canBranch_100 ?_
          refine aw_lcmp_ne 111 dX9_canBranch_103 dX9_canBranch_104 (by decide) (fun c12 => ?_) (fun c12 => ?_)
          · rw [if_neg c12] at hf
            refine aw_iconst (0 : Int32) dX9_canBranch_111 (by decide) ?_
            refine aw_lv [0, 1, 3] rfl ?_
            exact wkX9_canBranch_112 hl _ hk66 _ _ _ _ hf
          · rw [if_pos c12] at hf
            refine aw_iconst (1 : Int32) dX9_canBranch_107 (by decide) ?_
            refine aw_goto 112 dX9_canBranch_108 (by decide) ?_
            refine aw_lv [0, 1, 3] rfl ?_
            exact wkX9_canBranch_112 hl _ hk66 _ _ _ _ hf
def fX9_canBranch (S : MS) (a1 : Int32) (a2 : Int32) : Option (Bool × MS) :=
  (if xin a1 60 = true then (if a2 = (-1 : Int32) then (some (ms_j (ms_j S 25 (m_J S 34 a1.toNatClampNeg)) 26 (m_J S 35 a1.toNatClampNeg))).bind fun W6 => some (true, W6) else (fX9_isEmpty (m_J S 34 a1.toNatClampNeg) (m_J S 35 a1.toNatClampNeg) a2).bind fun q3 => (if q3 = false then some (false, S) else (fX9_puts S (m_J S 34 a1.toNatClampNeg) (m_J S 35 a1.toNatClampNeg) (m_I S 33 a1.toNatClampNeg) a2).bind fun q5 => fX9_canBranch_66 FU q5 a1 (0 : Int32) a1)) else none)
set_option maxHeartbeats 4000000 in
set_option maxRecDepth 100000 in
theorem ctX9_canBranch {l : Launch} {g : xG} {mo sz : Nat} (hl : l.stackTraces = false) {r : Bool × MS} (S : MS) (a1 : Int32) (a2 : Int32) (hf : fX9_canBranch S a1 a2 = some r) : CT yX9_canBranch MX9_canBranch rmX9_canBranch l g [.ref mo, .int a1, .int a2] (moE g mo sz S) (.inl (some (.int (bi r.1)))) (moE g mo sz r.2) := by
  rw [fX9_canBranch] at hf
  refine CT.of (lv0 := [(0, .ref mo), (1, .int a1), (2, .int a2)]) (by decide +kernel) rfl rfl (Nat.le_of_ble_eq_true rfl) rfl hl ?_
  refine aw_aload_n 0 dX9_canBranch_0 rfl ?_
  refine mo_getR 43 34 rfl (by decide) (wl4 (i := 141) rfl rfl) dX9_canBranch_1 ?_
  refine aw_iload_n 1 dX9_canBranch_4 rfl ?_
  obtain ⟨hi1, hf⟩ := xifn hf
  refine mo_lald 34 60 rfl (xin_v hi1) dX9_canBranch_5 ?_
  refine aw_lstore_n [(3, .long (m_J S 34 a1.toNatClampNeg)), (0, .ref mo), (1, .int a1), (2, .int a2)] dX9_canBranch_6 rfl (by decide) rfl ?_
  refine aw_aload_n 1 dX9_canBranch_7 rfl ?_
  refine mo_getR 44 35 rfl (by decide) (wl4 (i := 142) rfl rfl) dX9_canBranch_8 ?_
  refine aw_iload_n 2 dX9_canBranch_11 rfl ?_
  refine mo_lald 35 60 rfl (xin_v hi1) dX9_canBranch_12 ?_
  refine aw_lstore [(5, .long (m_J S 35 a1.toNatClampNeg)), (3, .long (m_J S 34 a1.toNatClampNeg)), (0, .ref mo), (1, .int a1), (2, .int a2)] dX9_canBranch_13 (by decide) rfl ?_
  refine aw_iload_n 4 dX9_canBranch_15 rfl ?_
  refine aw_iconst (-1 : Int32) dX9_canBranch_16 (by decide) ?_
  refine aw_icmp_ne 33 dX9_canBranch_17 (by decide) (fun c2 => ?_) (fun c2 => ?_)
  · rw [if_neg c2] at hf
    refine aw_aload_n 2 dX9_canBranch_33 rfl ?_
    refine aw_lload_n 1 dX9_canBranch_34 rfl ?_
    refine aw_lload 0 dX9_canBranch_35 rfl ?_
    refine aw_iload_n 4 dX9_canBranch_37 rfl ?_
    obtain ⟨q3, hq3, hf⟩ := xbind hf
    refine aw_callV 7 (some mo) [.long (m_J S 34 a1.toNatClampNeg), .long (m_J S 35 a1.toNatClampNeg), .int a2] 3 rfl mo_ob rfl rfl (ctX9_isEmpty hl _ _ _ hq3) ⟨wl5 (i := 73) rfl rfl, ciX9_isEmpty⟩ (wl5 (i := 75) rfl rfl) (wl0 (i := 28) rfl rfl) dX9_canBranch_38 rfl rfl (Nat.le_of_ble_eq_true rfl) ⟨Nat.le_of_ble_eq_true rfl, Nat.le_of_ble_eq_true rfl⟩ ⟨Nat.le_of_ble_eq_true rfl, Nat.le_of_ble_eq_true rfl⟩ ?_
    refine aw_ifb_ne 46 dX9_canBranch_41 (by decide) (fun c4 => ?_) (fun c4 => ?_)
    · rw [if_neg c4] at hf
      refine aw_aload_n 2 dX9_canBranch_46 rfl ?_
      refine aw_lload_n 1 dX9_canBranch_47 rfl ?_
      refine aw_lload 0 dX9_canBranch_48 rfl ?_
      refine aw_aload_n 2 dX9_canBranch_50 rfl ?_
      refine mo_getR 42 33 rfl (by decide) (wl4 (i := 140) rfl rfl) dX9_canBranch_51 ?_
      refine aw_iload_n 3 dX9_canBranch_54 rfl ?_
      refine mo_iald 33 60 rfl (xin_v hi1) dX9_canBranch_55 ?_
      refine aw_iload_n 4 dX9_canBranch_56 rfl ?_
      obtain ⟨q5, hq5, hf⟩ := xbind hf
      refine aw_callV 7 (some mo) [.long (m_J S 34 a1.toNatClampNeg), .long (m_J S 35 a1.toNatClampNeg), .int (m_I S 33 a1.toNatClampNeg), .int a2] 4 rfl mo_ob rfl rfl (ctX9_puts hl _ _ _ _ _ hq5) ⟨wl5 (i := 81) rfl rfl, ciX9_puts⟩ (wl5 (i := 83) rfl rfl) (wl0 (i := 30) rfl rfl) dX9_canBranch_57 rfl rfl (Nat.le_of_ble_eq_true rfl) ⟨Nat.le_of_ble_eq_true rfl, Nat.le_of_ble_eq_true rfl⟩ ⟨Nat.le_of_ble_eq_true rfl, Nat.le_of_ble_eq_true rfl⟩ ?_
      refine aw_iconst (0 : Int32) dX9_canBranch_60 (by decide) ?_
      refine aw_istore [(7, .int (0 : Int32)), (5, .long (m_J S 35 a1.toNatClampNeg)), (3, .long (m_J S 34 a1.toNatClampNeg)), (0, .ref mo), (1, .int a1), (2, .int a2)] dX9_canBranch_61 (by decide) rfl ?_
      refine aw_iload_n 4 dX9_canBranch_63 rfl ?_
      refine aw_istore [(8, .int a1), (7, .int (0 : Int32)), (5, .long (m_J S 35 a1.toNatClampNeg)), (3, .long (m_J S 34 a1.toNatClampNeg)), (0, .ref mo), (1, .int a1), (2, .int a2)] dX9_canBranch_64 (by decide) rfl ?_
      refine aw_lv [4, 5, 1, 0] rfl ?_
      exact wkX9_canBranch_66 hl _ _ _ _ _ hf
    · rw [if_pos c4] at hf
      refine aw_iconst (0 : Int32) dX9_canBranch_44 (by decide) ?_
      cases hf
      exact aw_zret dX9_canBranch_45 rfl rfl rfl rfl ⟨Nat.le_of_ble_eq_true rfl, Nat.le_of_ble_eq_true rfl⟩
  · rw [if_pos c2] at hf
    refine aw_aload_n 2 dX9_canBranch_20 rfl ?_
    refine aw_lload_n 1 dX9_canBranch_21 rfl ?_
    refine mo_putJ 25 rfl (by decide) rfl rfl (wl4 (i := 123) rfl rfl) dX9_canBranch_22 ?_
    refine aw_aload_n 2 dX9_canBranch_25 rfl ?_
    refine aw_lload 0 dX9_canBranch_26 rfl ?_
    obtain ⟨W6, hW6, hf⟩ := xlet hf
    refine mo_putJ 26 rfl (by decide) rfl rfl (wl4 (i := 124) rfl rfl) dX9_canBranch_28 ?_
    rw [hW6]
    refine aw_iconst (1 : Int32) dX9_canBranch_31 (by decide) ?_
    cases hf
    exact aw_zret dX9_canBranch_32 rfl rfl rfl rfl ⟨Nat.le_of_ble_eq_true rfl, Nat.le_of_ble_eq_true rfl⟩
abbrev MX9_fails : xM := (RX9, cX9_fails, 2, (some .boolean), "fails")
abbrev rmX9_fails : Room := { frames := 0, cells := 0, slots := 0, locals := 0 }
theorem ciX9_fails : Cond.code yX9_fails cX9_fails 2 (some .boolean) ∈ wt ∧ Cond.initialized yX9_fails.cls ∈ wt ∧ (yX9_fails.cls ≠ "java/lang/invoke/MethodHandle" ∧ yX9_fails.cls ≠ "java/lang/invoke/VarHandle" ∧ (parseMethodDescriptor yX9_fails.desc).map (fun d => d.parameters.length) = some 1) := ⟨wl5 (i := 19) rfl rfl, wl1 (i := 4) rfl rfl, by decide +kernel, by decide +kernel, by decide +kernel⟩
def fX9_fails (S : MS) (a1 : Int32) : Option (Bool × MS) :=
  (if a1 ≤ 0 then some (false, (ms_i S 47 a1)) else some (true, (ms_i S 47 a1)))
set_option maxHeartbeats 4000000 in
set_option maxRecDepth 100000 in
theorem ctX9_fails {l : Launch} {g : xG} {mo sz : Nat} (hl : l.stackTraces = false) {r : Bool × MS} (S : MS) (a1 : Int32) (hf : fX9_fails S a1 = some r) : CT yX9_fails MX9_fails rmX9_fails l g [.ref mo, .int a1] (moE g mo sz S) (.inl (some (.int (bi r.1)))) (moE g mo sz r.2) := by
  rw [fX9_fails] at hf
  refine CT.of (lv0 := [(0, .ref mo), (1, .int a1)]) (by decide +kernel) rfl rfl (Nat.le_of_ble_eq_true rfl) rfl hl ?_
  refine aw_aload_n 0 dX9_fails_0 rfl ?_
  refine aw_iload_n 1 dX9_fails_1 rfl ?_
  refine mo_putI 47 rfl (by decide) rfl rfl rfl rfl (wl4 (i := 145) rfl rfl) dX9_fails_2 ?_
  refine aw_iload_n 1 dX9_fails_5 rfl ?_
  refine aw_if_le 13 dX9_fails_6 (by decide) (fun c1 => ?_) (fun c1 => ?_)
  · rw [if_pos c1] at hf
    refine aw_iconst (0 : Int32) dX9_fails_13 (by decide) ?_
    cases hf
    exact aw_zret dX9_fails_14 rfl rfl rfl rfl ⟨Nat.le_of_ble_eq_true rfl, Nat.le_of_ble_eq_true rfl⟩
  · rw [if_neg c1] at hf
    refine aw_iconst (1 : Int32) dX9_fails_9 (by decide) ?_
    refine aw_goto 14 dX9_fails_10 (by decide) ?_
    cases hf
    exact aw_zret dX9_fails_14 rfl rfl rfl rfl ⟨Nat.le_of_ble_eq_true rfl, Nat.le_of_ble_eq_true rfl⟩
abbrev MX9_makes : xM := (RX9, cX9_makes, 8, (some .int), "makes")
abbrev rmX9_makes : Room := { frames := 0, cells := 0, slots := 0, locals := 0 }
theorem ciX9_makes : Cond.code yX9_makes cX9_makes 8 (some .int) ∈ wt ∧ Cond.initialized yX9_makes.cls ∈ wt ∧ (yX9_makes.cls ≠ "java/lang/invoke/MethodHandle" ∧ yX9_makes.cls ≠ "java/lang/invoke/VarHandle" ∧ (parseMethodDescriptor yX9_makes.desc).map (fun d => d.parameters.length) = some 5) := ⟨wl6 (i := 9) rfl rfl, wl1 (i := 4) rfl rfl, by decide +kernel, by decide +kernel, by decide +kernel⟩
def fX9_makes_78 (S : MS) (s1 : Int32) (s2 : Int32) : Option (Int32 × MS) :=
  (if xin s1 60 = true then (some (ms_i (ms_I S 29 s1.toNatClampNeg s2) 36 ((m_i (ms_I S 29 s1.toNatClampNeg s2) 36) + (1 : Int32)))).bind fun W2 => some (((m_i W2 36) - (1 : Int32)), W2) else none)
set_option maxHeartbeats 4000000 in
set_option maxRecDepth 100000 in
theorem wkX9_makes_78 {l : Launch} {g : xG} {x0 : xV} {mo sz : Nat} (hl : l.stackTraces = false) {r : Int32 × MS} (S : MS) (s1 : Int32) (s2 : Int32) (hf : fX9_makes_78 S s1 s2 = some r) : AW MX9_makes rmX9_makes l g x0 (.inl (some (.int r.1))) (moE g mo sz r.2) 0 0 (moE g mo sz S) 78 [(0, .ref mo)] [.int s2, .int s1, .ref (mo + 1 + 29)] := by
  rw [fX9_makes_78] at hf
  obtain ⟨hi1, hf⟩ := xifn hf
  refine mo_iast 29 60 rfl (xin_v hi1) dX9_makes_78 ?_
  refine aw_aload_n 0 dX9_makes_79 rfl ?_
  refine aw_dup dX9_makes_80 rfl ?_
  refine mo_getI 36 rfl (by decide) (wl4 (i := 134) rfl rfl) dX9_makes_81 ?_
  refine aw_iconst (1 : Int32) dX9_makes_84 (by decide) ?_
  refine aw_iadd dX9_makes_85 ?_
  obtain ⟨W2, hW2, hf⟩ := xlet hf
  refine mo_putI 36 rfl (by decide) rfl rfl rfl rfl (wl4 (i := 134) rfl rfl) dX9_makes_86 ?_
  rw [hW2]
  refine aw_aload_n 0 dX9_makes_89 rfl ?_
  refine mo_getI 36 rfl (by decide) (wl4 (i := 134) rfl rfl) dX9_makes_90 ?_
  refine aw_iconst (1 : Int32) dX9_makes_93 (by decide) ?_
  refine aw_isub dX9_makes_94 ?_
  cases hf
  exact aw_iret dX9_makes_95 rfl rfl rfl ⟨Nat.le_of_ble_eq_true rfl, Nat.le_of_ble_eq_true rfl⟩
def fX9_makes (S : MS) (a1 : Int32) (a2 : Int32) (a3 : Int64) (a5 : Int64) (a7 : Int32) : Option (Int32 × MS) :=
  (if xin (m_i S 36) 60 = true then (if xin (m_i (ms_I S 28 (m_i S 36).toNatClampNeg a1) 36) 60 = true then (some (ms_I (ms_I S 28 (m_i S 36).toNatClampNeg a1) 30 (m_i (ms_I S 28 (m_i S 36).toNatClampNeg a1) 36).toNatClampNeg a2)).bind fun W3 => (if xin (m_i W3 36) 60 = true then (if xin (m_i (ms_J W3 34 (m_i W3 36).toNatClampNeg a3) 36) 60 = true then (some (ms_J (ms_J W3 34 (m_i W3 36).toNatClampNeg a3) 35 (m_i (ms_J W3 34 (m_i W3 36).toNatClampNeg a3) 36).toNatClampNeg a5)).bind fun W6 => (if xin (m_i W6 36) 60 = true then (if a1 = (-1 : Int32) then fX9_makes_78 (ms_I W6 33 (m_i W6 36).toNatClampNeg a7) (m_i (ms_I W6 33 (m_i W6 36).toNatClampNeg a7) 36) (m_i (ms_I W6 33 (m_i W6 36).toNatClampNeg a7) 36) else (if xin a1 60 = true then fX9_makes_78 (ms_I W6 33 (m_i W6 36).toNatClampNeg a7) (m_i (ms_I W6 33 (m_i W6 36).toNatClampNeg a7) 36) (m_I (ms_I W6 33 (m_i W6 36).toNatClampNeg a7) 29 a1.toNatClampNeg) else none)) else none) else none) else none) else none) else none)
set_option maxHeartbeats 4000000 in
set_option maxRecDepth 100000 in
theorem ctX9_makes {l : Launch} {g : xG} {mo sz : Nat} (hl : l.stackTraces = false) {r : Int32 × MS} (S : MS) (a1 : Int32) (a2 : Int32) (a3 : Int64) (a5 : Int64) (a7 : Int32) (hf : fX9_makes S a1 a2 a3 a5 a7 = some r) : CT yX9_makes MX9_makes rmX9_makes l g [.ref mo, .int a1, .int a2, .long a3, .long a5, .int a7] (moE g mo sz S) (.inl (some (.int r.1))) (moE g mo sz r.2) := by
  rw [fX9_makes] at hf
  refine CT.of (lv0 := [(0, .ref mo), (1, .int a1), (2, .int a2), (3, .long a3), (5, .long a5), (7, .int a7)]) (by decide +kernel) rfl rfl (Nat.le_of_ble_eq_true rfl) rfl hl ?_
  refine aw_aload_n 0 dX9_makes_0 rfl ?_
  refine mo_getR 37 28 rfl (by decide) (wl4 (i := 135) rfl rfl) dX9_makes_1 ?_
  refine aw_aload_n 0 dX9_makes_4 rfl ?_
  refine mo_getI 36 rfl (by decide) (wl4 (i := 134) rfl rfl) dX9_makes_5 ?_
  refine aw_iload_n 1 dX9_makes_8 rfl ?_
  obtain ⟨hi1, hf⟩ := xifn hf
  refine mo_iast 28 60 rfl (xin_v hi1) dX9_makes_9 ?_
  refine aw_aload_n 0 dX9_makes_10 rfl ?_
  refine mo_getR 39 30 rfl (by decide) (wl4 (i := 137) rfl rfl) dX9_makes_11 ?_
  refine aw_aload_n 0 dX9_makes_14 rfl ?_
  refine mo_getI 36 rfl (by decide) (wl4 (i := 134) rfl rfl) dX9_makes_15 ?_
  refine aw_iload_n 2 dX9_makes_18 rfl ?_
  obtain ⟨hi2, hf⟩ := xifn hf
  obtain ⟨W3, hW3, hf⟩ := xlet hf
  refine mo_iast 30 60 rfl (xin_v hi2) dX9_makes_19 ?_
  rw [hW3]
  refine aw_aload_n 0 dX9_makes_20 rfl ?_
  refine mo_getR 43 34 rfl (by decide) (wl4 (i := 141) rfl rfl) dX9_makes_21 ?_
  refine aw_aload_n 0 dX9_makes_24 rfl ?_
  refine mo_getI 36 rfl (by decide) (wl4 (i := 134) rfl rfl) dX9_makes_25 ?_
  refine aw_lload_n 3 dX9_makes_28 rfl ?_
  obtain ⟨hi4, hf⟩ := xifn hf
  refine mo_last 34 60 rfl (xin_v hi4) dX9_makes_29 ?_
  refine aw_aload_n 0 dX9_makes_30 rfl ?_
  refine mo_getR 44 35 rfl (by decide) (wl4 (i := 142) rfl rfl) dX9_makes_31 ?_
  refine aw_aload_n 0 dX9_makes_34 rfl ?_
  refine mo_getI 36 rfl (by decide) (wl4 (i := 134) rfl rfl) dX9_makes_35 ?_
  refine aw_lload 4 dX9_makes_38 rfl ?_
  obtain ⟨hi5, hf⟩ := xifn hf
  obtain ⟨W6, hW6, hf⟩ := xlet hf
  refine mo_last 35 60 rfl (xin_v hi5) dX9_makes_40 ?_
  rw [hW6]
  refine aw_aload_n 0 dX9_makes_41 rfl ?_
  refine mo_getR 42 33 rfl (by decide) (wl4 (i := 140) rfl rfl) dX9_makes_42 ?_
  refine aw_aload_n 0 dX9_makes_45 rfl ?_
  refine mo_getI 36 rfl (by decide) (wl4 (i := 134) rfl rfl) dX9_makes_46 ?_
  refine aw_iload 5 dX9_makes_49 rfl ?_
  obtain ⟨hi7, hf⟩ := xifn hf
  refine mo_iast 33 60 rfl (xin_v hi7) dX9_makes_51 ?_
  refine aw_aload_n 0 dX9_makes_52 rfl ?_
  refine mo_getR 38 29 rfl (by decide) (wl4 (i := 136) rfl rfl) dX9_makes_53 ?_
  refine aw_aload_n 0 dX9_makes_56 rfl ?_
  refine mo_getI 36 rfl (by decide) (wl4 (i := 134) rfl rfl) dX9_makes_57 ?_
  refine aw_iload_n 1 dX9_makes_60 rfl ?_
  refine aw_iconst (-1 : Int32) dX9_makes_61 (by decide) ?_
  refine aw_icmp_ne 72 dX9_makes_62 (by decide) (fun c8 => ?_) (fun c8 => ?_)
  · rw [if_neg c8] at hf
    refine aw_aload_n 0 dX9_makes_72 rfl ?_
    refine mo_getR 38 29 rfl (by decide) (wl4 (i := 136) rfl rfl) dX9_makes_73 ?_
    refine aw_iload_n 1 dX9_makes_76 rfl ?_
    obtain ⟨hi9, hf⟩ := xifn hf
    refine mo_iald 29 60 rfl (xin_v hi9) dX9_makes_77 ?_
    refine aw_lv [0] rfl ?_
    exact wkX9_makes_78 hl _ _ _ hf
  · rw [if_pos c8] at hf
    refine aw_aload_n 0 dX9_makes_65 rfl ?_
    refine mo_getI 36 rfl (by decide) (wl4 (i := 134) rfl rfl) dX9_makes_66 ?_
    refine aw_goto 78 dX9_makes_69 (by decide) ?_
    refine aw_lv [0] rfl ?_
    exact wkX9_makes_78 hl _ _ _ hf
abbrev MX9_branch : xM := (RX9, cX9_branch, 5, (some .int), "branch")
abbrev rmX9_branch : Room := { frames := 5, cells := 0, slots := 0, locals := 139 }
theorem ciX9_branch : Cond.code yX9_branch cX9_branch 5 (some .int) ∈ wt ∧ Cond.initialized yX9_branch.cls ∈ wt ∧ (yX9_branch.cls ≠ "java/lang/invoke/MethodHandle" ∧ yX9_branch.cls ≠ "java/lang/invoke/VarHandle" ∧ (parseMethodDescriptor yX9_branch.desc).map (fun d => d.parameters.length) = some 2) := ⟨wl6 (i := 13) rfl rfl, wl1 (i := 4) rfl rfl, by decide +kernel, by decide +kernel, by decide +kernel⟩
def fX9_branch_80 (S : MS) (a1 : Int32) (a2 : Int32) (a4 : Int32) (s1 : Int32) : Option (Int32 × MS) :=
  (fX9_fails S s1).bind fun q1 => (if q1.1 = false then (if a4 = (-1 : Int32) then (if xin a1 60 = true then (fX9_makes q1.2 a1 a2 (m_j q1.2 25) (m_j q1.2 26) ((1 : Int32) - (m_I q1.2 33 a1.toNatClampNeg))).bind fun q5 => some (q5.1, q5.2) else none) else some (a4, q1.2)) else some ((0 : Int32), q1.2))
set_option maxHeartbeats 4000000 in
set_option maxRecDepth 100000 in
theorem wkX9_branch_80 {l : Launch} {g : xG} {x0 : xV} {mo sz : Nat} (hl : l.stackTraces = false) {r : Int32 × MS} (S : MS) (a1 : Int32) (a2 : Int32) (a4 : Int32) (s1 : Int32) (hf : fX9_branch_80 S a1 a2 a4 s1 = some r) : AW MX9_branch rmX9_branch l g x0 (.inl (some (.int r.1))) (moE g mo sz r.2) 0 0 (moE g mo sz S) 80 [(0, .ref mo), (1, .int a1), (2, .int a2), (4, .int a4)] [.int s1, .ref mo] := by
  rw [fX9_branch_80] at hf
  obtain ⟨q1, hq1, hf⟩ := xbind hf
  refine aw_callV 7 (some mo) [.int s1] 1 rfl mo_ob rfl rfl (ctX9_fails hl _ _ hq1) ⟨wl5 (i := 16) rfl rfl, ciX9_fails⟩ (wl5 (i := 18) rfl rfl) (wl0 (i := 19) rfl rfl) dX9_branch_80 rfl rfl (Nat.le_of_ble_eq_true rfl) ⟨Nat.le_of_ble_eq_true rfl, Nat.le_of_ble_eq_true rfl⟩ ⟨Nat.le_of_ble_eq_true rfl, Nat.le_of_ble_eq_true rfl⟩ ?_
  refine aw_ifb_eq 88 dX9_branch_83 (by decide) (fun c2 => ?_) (fun c2 => ?_)
  · rw [if_pos c2] at hf
    refine aw_iload 3 dX9_branch_88 rfl ?_
    refine aw_iconst (-1 : Int32) dX9_branch_90 (by decide) ?_
    refine aw_icmp_eq 99 dX9_branch_91 (by decide) (fun c3 => ?_) (fun c3 => ?_)
    · rw [if_pos c3] at hf
      refine aw_aload_n 0 dX9_branch_99 rfl ?_
      refine aw_iload_n 1 dX9_branch_100 rfl ?_
      refine aw_iload_n 2 dX9_branch_101 rfl ?_
      refine aw_aload_n 0 dX9_branch_102 rfl ?_
      refine mo_getJ 25 rfl (by decide) (wl4 (i := 123) rfl rfl) dX9_branch_103 ?_
      refine aw_aload_n 0 dX9_branch_106 rfl ?_
      refine mo_getJ 26 rfl (by decide) (wl4 (i := 124) rfl rfl) dX9_branch_107 ?_
      refine aw_iconst (1 : Int32) dX9_branch_110 (by decide) ?_
      refine aw_aload_n 0 dX9_branch_111 rfl ?_
      refine mo_getR 42 33 rfl (by decide) (wl4 (i := 140) rfl rfl) dX9_branch_112 ?_
      refine aw_iload_n 1 dX9_branch_115 rfl ?_
      obtain ⟨hi4, hf⟩ := xifn hf
      refine mo_iald 33 60 rfl (xin_v hi4) dX9_branch_116 ?_
      refine aw_isub dX9_branch_117 ?_
      obtain ⟨q5, hq5, hf⟩ := xbind hf
      refine aw_callV 7 (some mo) [.int a1, .int a2, .long (m_j q1.2 25), .long (m_j q1.2 26), .int ((1 : Int32) - (m_I q1.2 33 a1.toNatClampNeg))] 5 rfl mo_ob rfl rfl (ctX9_makes hl _ _ _ _ _ _ hq5) ⟨wl6 (i := 6) rfl rfl, ciX9_makes⟩ (wl6 (i := 8) rfl rfl) (wl0 (i := 50) rfl rfl) dX9_branch_118 rfl rfl (Nat.le_of_ble_eq_true rfl) ⟨Nat.le_of_ble_eq_true rfl, Nat.le_of_ble_eq_true rfl⟩ ⟨Nat.le_of_ble_eq_true rfl, Nat.le_of_ble_eq_true rfl⟩ ?_
      cases hf
      exact aw_iret dX9_branch_121 rfl rfl rfl ⟨Nat.le_of_ble_eq_true rfl, Nat.le_of_ble_eq_true rfl⟩
    · rw [if_neg c3] at hf
      refine aw_iload 3 dX9_branch_94 rfl ?_
      refine aw_goto 121 dX9_branch_96 (by decide) ?_
      cases hf
      exact aw_iret dX9_branch_121 rfl rfl rfl ⟨Nat.le_of_ble_eq_true rfl, Nat.le_of_ble_eq_true rfl⟩
  · rw [if_neg c2] at hf
    refine aw_iconst (0 : Int32) dX9_branch_86 (by decide) ?_
    cases hf
    exact aw_iret dX9_branch_87 rfl rfl rfl ⟨Nat.le_of_ble_eq_true rfl, Nat.le_of_ble_eq_true rfl⟩
def fX9_branch_40 (S : MS) (a1 : Int32) (a2 : Int32) (a3 : Int32) (s0 : Int32) : Option (Int32 × MS) :=
  (if a3 = 0 then fX9_branch_80 S a1 a2 s0 (1 : Int32) else (if s0 = (-1 : Int32) then (if (m_i S 36) = (60 : Int32) then fX9_branch_80 S a1 a2 s0 (2 : Int32) else (fX9_canBranch S a1 a2).bind fun q4 => (if q4.1 = false then fX9_branch_80 q4.2 a1 a2 s0 (2 : Int32) else fX9_branch_80 q4.2 a1 a2 s0 (0 : Int32))) else fX9_branch_80 S a1 a2 s0 (0 : Int32)))
set_option maxHeartbeats 4000000 in
set_option maxRecDepth 100000 in
theorem wkX9_branch_40 {l : Launch} {g : xG} {x0 : xV} {mo sz : Nat} (hl : l.stackTraces = false) {r : Int32 × MS} (S : MS) (a1 : Int32) (a2 : Int32) (a3 : Int32) (s0 : Int32) (hf : fX9_branch_40 S a1 a2 a3 s0 = some r) : AW MX9_branch rmX9_branch l g x0 (.inl (some (.int r.1))) (moE g mo sz r.2) 0 0 (moE g mo sz S) 40 [(0, .ref mo), (1, .int a1), (2, .int a2), (3, .int a3)] [.int s0] := by
  rw [fX9_branch_40] at hf
  refine aw_istore [(4, .int s0), (0, .ref mo), (1, .int a1), (2, .int a2), (3, .int a3)] dX9_branch_40 (by decide) rfl ?_
  refine aw_aload_n 1 dX9_branch_42 rfl ?_
  refine aw_iload_n 4 dX9_branch_43 rfl ?_
  refine aw_if_ne 51 dX9_branch_44 (by decide) (fun c1 => ?_) (fun c1 => ?_)
  · rw [if_neg c1] at hf
    refine aw_iload 0 dX9_branch_51 rfl ?_
    refine aw_iconst (-1 : Int32) dX9_branch_53 (by decide) ?_
    refine aw_icmp_ne 79 dX9_branch_54 (by decide) (fun c2 => ?_) (fun c2 => ?_)
    · rw [if_neg c2] at hf
      refine aw_iconst (0 : Int32) dX9_branch_79 (by decide) ?_
      refine aw_lv [1, 2, 3, 0] rfl ?_
      exact wkX9_branch_80 hl _ _ _ _ _ hf
    · rw [if_pos c2] at hf
      refine aw_aload_n 1 dX9_branch_57 rfl ?_
      refine mo_getI 36 rfl (by decide) (wl4 (i := 134) rfl rfl) dX9_branch_58 ?_
      refine aw_bipush (60 : Int32) dX9_branch_61 (by decide) ?_
      refine aw_icmp_eq 75 dX9_branch_63 (by decide) (fun c3 => ?_) (fun c3 => ?_)
      · rw [if_pos c3] at hf
        refine aw_iconst (2 : Int32) dX9_branch_75 (by decide) ?_
        refine aw_goto 80 dX9_branch_76 (by decide) ?_
        refine aw_lv [1, 2, 3, 0] rfl ?_
        exact wkX9_branch_80 hl _ _ _ _ _ hf
      · rw [if_neg c3] at hf
        refine aw_aload_n 1 dX9_branch_66 rfl ?_
        refine aw_iload_n 2 dX9_branch_67 rfl ?_
        refine aw_iload_n 3 dX9_branch_68 rfl ?_
        obtain ⟨q4, hq4, hf⟩ := xbind hf
        refine aw_callV 7 (some mo) [.int a1, .int a2] 2 rfl mo_ob rfl rfl (ctX9_canBranch hl _ _ _ hq4) ⟨wl6 (i := 22) rfl rfl, ciX9_canBranch⟩ (wl6 (i := 24) rfl rfl) (wl0 (i := 53) rfl rfl) dX9_branch_69 rfl rfl (Nat.le_of_ble_eq_true rfl) ⟨Nat.le_of_ble_eq_true rfl, Nat.le_of_ble_eq_true rfl⟩ ⟨Nat.le_of_ble_eq_true rfl, Nat.le_of_ble_eq_true rfl⟩ ?_
        refine aw_ifb_ne 79 dX9_branch_72 (by decide) (fun c5 => ?_) (fun c5 => ?_)
        · rw [if_neg c5] at hf
          refine aw_iconst (0 : Int32) dX9_branch_79 (by decide) ?_
          refine aw_lv [1, 2, 3, 0] rfl ?_
          exact wkX9_branch_80 hl _ _ _ _ _ hf
        · rw [if_pos c5] at hf
          refine aw_iconst (2 : Int32) dX9_branch_75 (by decide) ?_
          refine aw_goto 80 dX9_branch_76 (by decide) ?_
          refine aw_lv [1, 2, 3, 0] rfl ?_
          exact wkX9_branch_80 hl _ _ _ _ _ hf
  · rw [if_pos c1] at hf
    refine aw_iconst (1 : Int32) dX9_branch_47 (by decide) ?_
    refine aw_goto 80 dX9_branch_48 (by decide) ?_
    refine aw_lv [1, 2, 3, 0] rfl ?_
    exact wkX9_branch_80 hl _ _ _ _ _ hf
def fX9_branch_25 (S : MS) (a1 : Int32) (a2 : Int32) (s0 : Int32) : Option (Int32 × MS) :=
  (if s0 = 0 then fX9_branch_40 S a1 a2 s0 (-1 : Int32) else (fX9_child S a1 a2).bind fun q2 => fX9_branch_40 S a1 a2 s0 q2)
set_option maxHeartbeats 4000000 in
set_option maxRecDepth 100000 in
theorem wkX9_branch_25 {l : Launch} {g : xG} {x0 : xV} {mo sz : Nat} (hl : l.stackTraces = false) {r : Int32 × MS} (S : MS) (a1 : Int32) (a2 : Int32) (s0 : Int32) (hf : fX9_branch_25 S a1 a2 s0 = some r) : AW MX9_branch rmX9_branch l g x0 (.inl (some (.int r.1))) (moE g mo sz r.2) 0 0 (moE g mo sz S) 25 [(0, .ref mo), (1, .int a1), (2, .int a2)] [.int s0] := by
  rw [fX9_branch_25] at hf
  refine aw_istore_n [(3, .int s0), (0, .ref mo), (1, .int a1), (2, .int a2)] dX9_branch_25 rfl (by decide) rfl ?_
  refine aw_iload_n 0 dX9_branch_26 rfl ?_
  refine aw_if_eq 39 dX9_branch_27 (by decide) (fun c1 => ?_) (fun c1 => ?_)
  · rw [if_pos c1] at hf
    refine aw_iconst (-1 : Int32) dX9_branch_39 (by decide) ?_
    refine aw_lv [1, 2, 3, 0] rfl ?_
    exact wkX9_branch_40 hl _ _ _ _ _ hf
  · rw [if_neg c1] at hf
    refine aw_aload_n 1 dX9_branch_30 rfl ?_
    refine aw_iload_n 2 dX9_branch_31 rfl ?_
    refine aw_iload_n 3 dX9_branch_32 rfl ?_
    obtain ⟨q2, hq2, hf⟩ := xbind hf
    refine aw_callV 7 (some mo) [.int a1, .int a2] 2 rfl mo_ob rfl rfl (ctX9_child hl _ _ _ hq2) ⟨wl6 (i := 18) rfl rfl, ciX9_child⟩ (wl6 (i := 20) rfl rfl) (wl0 (i := 52) rfl rfl) dX9_branch_33 rfl rfl (Nat.le_of_ble_eq_true rfl) ⟨Nat.le_of_ble_eq_true rfl, Nat.le_of_ble_eq_true rfl⟩ ⟨Nat.le_of_ble_eq_true rfl, Nat.le_of_ble_eq_true rfl⟩ ?_
    refine aw_goto 40 dX9_branch_36 (by decide) ?_
    refine aw_lv [1, 2, 3, 0] rfl ?_
    exact wkX9_branch_40 hl _ _ _ _ _ hf
def fX9_branch (S : MS) (a1 : Int32) (a2 : Int32) : Option (Int32 × MS) :=
  (fX9_isNode S a1).bind fun q1 => (if q1 = false then fX9_branch_25 S a1 a2 (0 : Int32) else (if a2 = (-1 : Int32) then fX9_branch_25 S a1 a2 (1 : Int32) else (fX9_isPoint a2).bind fun q4 => (if q4 = false then fX9_branch_25 S a1 a2 (0 : Int32) else fX9_branch_25 S a1 a2 (1 : Int32))))
set_option maxHeartbeats 4000000 in
set_option maxRecDepth 100000 in
theorem ctX9_branch {l : Launch} {g : xG} {mo sz : Nat} (hl : l.stackTraces = false) {r : Int32 × MS} (S : MS) (a1 : Int32) (a2 : Int32) (hf : fX9_branch S a1 a2 = some r) : CT yX9_branch MX9_branch rmX9_branch l g [.ref mo, .int a1, .int a2] (moE g mo sz S) (.inl (some (.int r.1))) (moE g mo sz r.2) := by
  rw [fX9_branch] at hf
  refine CT.of (lv0 := [(0, .ref mo), (1, .int a1), (2, .int a2)]) (by decide +kernel) rfl rfl (Nat.le_of_ble_eq_true rfl) rfl hl ?_
  refine aw_aload_n 0 dX9_branch_0 rfl ?_
  refine aw_iload_n 1 dX9_branch_1 rfl ?_
  obtain ⟨q1, hq1, hf⟩ := xbind hf
  refine aw_callV 7 (some mo) [.int a1] 1 rfl mo_ob rfl rfl (ctX9_isNode hl _ _ hq1) ⟨wl6 (i := 14) rfl rfl, ciX9_isNode⟩ (wl6 (i := 16) rfl rfl) (wl0 (i := 51) rfl rfl) dX9_branch_2 rfl rfl (Nat.le_of_ble_eq_true rfl) ⟨Nat.le_of_ble_eq_true rfl, Nat.le_of_ble_eq_true rfl⟩ ⟨Nat.le_of_ble_eq_true rfl, Nat.le_of_ble_eq_true rfl⟩ ?_
  refine aw_ifb_eq 24 dX9_branch_5 (by decide) (fun c2 => ?_) (fun c2 => ?_)
  · rw [if_pos c2] at hf
    refine aw_iconst (0 : Int32) dX9_branch_24 (by decide) ?_
    refine aw_lv [0, 1, 2] rfl ?_
    exact wkX9_branch_25 hl _ _ _ _ hf
  · rw [if_neg c2] at hf
    refine aw_iload_n 2 dX9_branch_8 rfl ?_
    refine aw_iconst (-1 : Int32) dX9_branch_9 (by decide) ?_
    refine aw_icmp_eq 20 dX9_branch_10 (by decide) (fun c3 => ?_) (fun c3 => ?_)
    · rw [if_pos c3] at hf
      refine aw_iconst (1 : Int32) dX9_branch_20 (by decide) ?_
      refine aw_goto 25 dX9_branch_21 (by decide) ?_
      refine aw_lv [0, 1, 2] rfl ?_
      exact wkX9_branch_25 hl _ _ _ _ hf
    · rw [if_neg c3] at hf
      refine aw_iload_n 2 dX9_branch_13 rfl ?_
      obtain ⟨q4, hq4, hf⟩ := xbind hf
      refine aw_callS [.int a2] 1 (ctX9_isPoint hl _ hq4) ⟨wl5 (i := 66) rfl rfl, ciX9_isPoint⟩ (wl5 (i := 67) rfl rfl) dX9_branch_14 rfl rfl (Nat.le_of_ble_eq_true rfl) ⟨Nat.le_of_ble_eq_true rfl, Nat.le_of_ble_eq_true rfl⟩ ⟨Nat.le_of_ble_eq_true rfl, Nat.le_of_ble_eq_true rfl⟩ ?_
      refine aw_ifb_eq 24 dX9_branch_17 (by decide) (fun c5 => ?_) (fun c5 => ?_)
      · rw [if_pos c5] at hf
        refine aw_iconst (0 : Int32) dX9_branch_24 (by decide) ?_
        refine aw_lv [0, 1, 2] rfl ?_
        exact wkX9_branch_25 hl _ _ _ _ hf
      · rw [if_neg c5] at hf
        refine aw_iconst (1 : Int32) dX9_branch_20 (by decide) ?_
        refine aw_goto 25 dX9_branch_21 (by decide) ?_
        refine aw_lv [0, 1, 2] rfl ?_
        exact wkX9_branch_25 hl _ _ _ _ hf
abbrev MX9_sideOf : xM := (RX9, cX9_sideOf, 4, (some .int), "sideOf")
abbrev rmX9_sideOf : Room := { frames := 0, cells := 0, slots := 0, locals := 0 }
theorem ciX9_sideOf : Cond.code yX9_sideOf cX9_sideOf 4 (some .int) ∈ wt ∧ Cond.initialized yX9_sideOf.cls ∈ wt ∧ (yX9_sideOf.cls ≠ "java/lang/invoke/MethodHandle" ∧ yX9_sideOf.cls ≠ "java/lang/invoke/VarHandle" ∧ (parseMethodDescriptor yX9_sideOf.desc).map (fun d => d.parameters.length) = some 2) := ⟨wl5 (i := 80) rfl rfl, wl1 (i := 4) rfl rfl, by decide +kernel, by decide +kernel, by decide +kernel⟩
def fX9_sideOf_15 (S : MS) (a2 : Int32) (s0 : Int32) : Option (Int32) :=
  some ((s0 + a2) - (s0 + a2) / (2 : Int32) * (2 : Int32))
set_option maxHeartbeats 4000000 in
set_option maxRecDepth 100000 in
theorem wkX9_sideOf_15 {l : Launch} {g : xG} {x0 : xV} {mo sz : Nat} (hl : l.stackTraces = false) {r : Int32} (S : MS) (a2 : Int32) (s0 : Int32) (hf : fX9_sideOf_15 S a2 s0 = some r) : AW MX9_sideOf rmX9_sideOf l g x0 (.inl (some (.int r))) (moE g mo sz S) 0 0 (moE g mo sz S) 15 [(2, .int a2)] [.int s0] := by
  rw [fX9_sideOf_15] at hf
  refine aw_istore_n [(3, .int s0), (2, .int a2)] dX9_sideOf_15 rfl (by decide) rfl ?_
  refine aw_iload_n 0 dX9_sideOf_16 rfl ?_
  refine aw_iload_n 1 dX9_sideOf_17 rfl ?_
  refine aw_iadd dX9_sideOf_18 ?_
  refine aw_iconst (2 : Int32) dX9_sideOf_19 (by decide) ?_
  refine aw_irem dX9_sideOf_20 (by decide) ?_
  cases hf
  exact aw_iret dX9_sideOf_21 rfl rfl rfl ⟨Nat.le_of_ble_eq_true rfl, Nat.le_of_ble_eq_true rfl⟩
def fX9_sideOf (S : MS) (a1 : Int32) (a2 : Int32) : Option (Int32) :=
  (if xin a1 16 = true then (if (m_I S 7 a1.toNatClampNeg) ≤ (1 : Int32) then fX9_sideOf_15 S a2 (0 : Int32) else fX9_sideOf_15 S a2 (1 : Int32)) else none)
set_option maxHeartbeats 4000000 in
set_option maxRecDepth 100000 in
theorem ctX9_sideOf {l : Launch} {g : xG} {mo sz : Nat} (hl : l.stackTraces = false) {r : Int32} (S : MS) (a1 : Int32) (a2 : Int32) (hf : fX9_sideOf S a1 a2 = some r) : CT yX9_sideOf MX9_sideOf rmX9_sideOf l g [.ref mo, .int a1, .int a2] (moE g mo sz S) (.inl (some (.int r))) (moE g mo sz S) := by
  rw [fX9_sideOf] at hf
  refine CT.of (lv0 := [(0, .ref mo), (1, .int a1), (2, .int a2)]) (by decide +kernel) rfl rfl (Nat.le_of_ble_eq_true rfl) rfl hl ?_
  refine aw_aload_n 0 dX9_sideOf_0 rfl ?_
  refine mo_getR 9 7 rfl (by decide) (wl4 (i := 107) rfl rfl) dX9_sideOf_1 ?_
  refine aw_iload_n 1 dX9_sideOf_4 rfl ?_
  obtain ⟨hi1, hf⟩ := xifn hf
  refine mo_iald 7 16 rfl (xin_v hi1) dX9_sideOf_5 ?_
  refine aw_iconst (1 : Int32) dX9_sideOf_6 (by decide) ?_
  refine aw_icmp_le 14 dX9_sideOf_7 (by decide) (fun c2 => ?_) (fun c2 => ?_)
  · rw [if_pos c2] at hf
    refine aw_iconst (0 : Int32) dX9_sideOf_14 (by decide) ?_
    refine aw_lv [2] rfl ?_
    exact wkX9_sideOf_15 hl _ _ _ hf
  · rw [if_neg c2] at hf
    refine aw_iconst (1 : Int32) dX9_sideOf_10 (by decide) ?_
    refine aw_goto 15 dX9_sideOf_11 (by decide) ?_
    refine aw_lv [2] rfl ?_
    exact wkX9_sideOf_15 hl _ _ _ hf
abbrev MX9_canPlay : xM := (RX9, cX9_canPlay, 7, (some .boolean), "canPlay")
abbrev rmX9_canPlay : Room := { frames := 4, cells := 0, slots := 0, locals := 111 }
theorem ciX9_canPlay : Cond.code yX9_canPlay cX9_canPlay 7 (some .boolean) ∈ wt ∧ Cond.initialized yX9_canPlay.cls ∈ wt ∧ (yX9_canPlay.cls ≠ "java/lang/invoke/MethodHandle" ∧ yX9_canPlay.cls ≠ "java/lang/invoke/VarHandle" ∧ (parseMethodDescriptor yX9_canPlay.desc).map (fun d => d.parameters.length) = some 2) := ⟨wl5 (i := 72) rfl rfl, wl1 (i := 4) rfl rfl, by decide +kernel, by decide +kernel, by decide +kernel⟩
def fX9_canPlay (S : MS) (a1 : Int32) (a2 : Int32) : Option (Bool × MS) :=
  (if xin a1 16 = true then (if xin (m_I S 11 a1.toNatClampNeg) 4096 = true then (if (m_I S 8 a1.toNatClampNeg) = 0 then (fX9_isEmpty (m_J S 18 (m_I S 11 a1.toNatClampNeg).toNatClampNeg) (m_J S 19 (m_I S 11 a1.toNatClampNeg).toNatClampNeg) a2).bind fun q4 => (if q4 = false then some (false, S) else (fX9_sideOf S a1 (m_I S 12 a1.toNatClampNeg)).bind fun q6 => (fX9_puts S (m_J S 18 (m_I S 11 a1.toNatClampNeg).toNatClampNeg) (m_J S 19 (m_I S 11 a1.toNatClampNeg).toNatClampNeg) q6 a2).bind fun q7 => (if (m_i q7 28) = 0 then (fX9_wasThere q7 (m_I q7 11 a1.toNatClampNeg) (m_j q7 25) (m_j q7 26)).bind fun q9 => (if q9 = false then some (true, q7) else some (false, q7)) else some (false, q7))) else some (false, S)) else none) else none)
set_option maxHeartbeats 4000000 in
set_option maxRecDepth 100000 in
theorem ctX9_canPlay {l : Launch} {g : xG} {mo sz : Nat} (hl : l.stackTraces = false) {r : Bool × MS} (S : MS) (a1 : Int32) (a2 : Int32) (hf : fX9_canPlay S a1 a2 = some r) : CT yX9_canPlay MX9_canPlay rmX9_canPlay l g [.ref mo, .int a1, .int a2] (moE g mo sz S) (.inl (some (.int (bi r.1)))) (moE g mo sz r.2) := by
  rw [fX9_canPlay] at hf
  refine CT.of (lv0 := [(0, .ref mo), (1, .int a1), (2, .int a2)]) (by decide +kernel) rfl rfl (Nat.le_of_ble_eq_true rfl) rfl hl ?_
  refine aw_aload_n 0 dX9_canPlay_0 rfl ?_
  refine mo_getR 22 18 rfl (by decide) (wl4 (i := 120) rfl rfl) dX9_canPlay_1 ?_
  refine aw_aload_n 0 dX9_canPlay_4 rfl ?_
  refine mo_getR 13 11 rfl (by decide) (wl4 (i := 111) rfl rfl) dX9_canPlay_5 ?_
  refine aw_iload_n 1 dX9_canPlay_8 rfl ?_
  obtain ⟨hi1, hf⟩ := xifn hf
  refine mo_iald 11 16 rfl (xin_v hi1) dX9_canPlay_9 ?_
  obtain ⟨hi2, hf⟩ := xifn hf
  refine mo_lald 18 4096 rfl (xin_v hi2) dX9_canPlay_10 ?_
  refine aw_lstore_n [(3, .long (m_J S 18 (m_I S 11 a1.toNatClampNeg).toNatClampNeg)), (0, .ref mo), (1, .int a1), (2, .int a2)] dX9_canPlay_11 rfl (by decide) rfl ?_
  refine aw_aload_n 1 dX9_canPlay_12 rfl ?_
  refine mo_getR 23 19 rfl (by decide) (wl4 (i := 121) rfl rfl) dX9_canPlay_13 ?_
  refine aw_aload_n 1 dX9_canPlay_16 rfl ?_
  refine mo_getR 13 11 rfl (by decide) (wl4 (i := 111) rfl rfl) dX9_canPlay_17 ?_
  refine aw_iload_n 2 dX9_canPlay_20 rfl ?_
  refine mo_iald 11 16 rfl (xin_v hi1) dX9_canPlay_21 ?_
  refine mo_lald 19 4096 rfl (xin_v hi2) dX9_canPlay_22 ?_
  refine aw_lstore [(5, .long (m_J S 19 (m_I S 11 a1.toNatClampNeg).toNatClampNeg)), (3, .long (m_J S 18 (m_I S 11 a1.toNatClampNeg).toNatClampNeg)), (0, .ref mo), (1, .int a1), (2, .int a2)] dX9_canPlay_23 (by decide) rfl ?_
  refine aw_aload_n 2 dX9_canPlay_25 rfl ?_
  refine mo_getR 10 8 rfl (by decide) (wl4 (i := 108) rfl rfl) dX9_canPlay_26 ?_
  refine aw_iload_n 3 dX9_canPlay_29 rfl ?_
  refine mo_iald 8 16 rfl (xin_v hi1) dX9_canPlay_30 ?_
  refine aw_if_ne 45 dX9_canPlay_31 (by decide) (fun c3 => ?_) (fun c3 => ?_)
  · rw [if_neg c3] at hf
    refine aw_iconst (0 : Int32) dX9_canPlay_45 (by decide) ?_
    cases hf
    exact aw_zret dX9_canPlay_46 rfl rfl rfl rfl ⟨Nat.le_of_ble_eq_true rfl, Nat.le_of_ble_eq_true rfl⟩
  · rw [if_pos c3] at hf
    refine aw_aload_n 2 dX9_canPlay_34 rfl ?_
    refine aw_lload_n 1 dX9_canPlay_35 rfl ?_
    refine aw_lload 0 dX9_canPlay_36 rfl ?_
    refine aw_iload_n 4 dX9_canPlay_38 rfl ?_
    obtain ⟨q4, hq4, hf⟩ := xbind hf
    refine aw_callV 7 (some mo) [.long (m_J S 18 (m_I S 11 a1.toNatClampNeg).toNatClampNeg), .long (m_J S 19 (m_I S 11 a1.toNatClampNeg).toNatClampNeg), .int a2] 3 rfl mo_ob rfl rfl (ctX9_isEmpty hl _ _ _ hq4) ⟨wl5 (i := 73) rfl rfl, ciX9_isEmpty⟩ (wl5 (i := 75) rfl rfl) (wl0 (i := 28) rfl rfl) dX9_canPlay_39 rfl rfl (Nat.le_of_ble_eq_true rfl) ⟨Nat.le_of_ble_eq_true rfl, Nat.le_of_ble_eq_true rfl⟩ ⟨Nat.le_of_ble_eq_true rfl, Nat.le_of_ble_eq_true rfl⟩ ?_
    refine aw_ifb_ne 47 dX9_canPlay_42 (by decide) (fun c5 => ?_) (fun c5 => ?_)
    · rw [if_neg c5] at hf
      refine aw_aload_n 2 dX9_canPlay_47 rfl ?_
      refine aw_lload_n 1 dX9_canPlay_48 rfl ?_
      refine aw_lload 0 dX9_canPlay_49 rfl ?_
      refine aw_aload_n 2 dX9_canPlay_51 rfl ?_
      refine aw_iload_n 3 dX9_canPlay_52 rfl ?_
      refine aw_aload_n 2 dX9_canPlay_53 rfl ?_
      refine mo_getR 14 12 rfl (by decide) (wl4 (i := 112) rfl rfl) dX9_canPlay_54 ?_
      refine aw_iload_n 3 dX9_canPlay_57 rfl ?_
      refine mo_iald 12 16 rfl (xin_v hi1) dX9_canPlay_58 ?_
      obtain ⟨q6, hq6, hf⟩ := xbind hf
      refine aw_callV 7 (some mo) [.int a1, .int (m_I S 12 a1.toNatClampNeg)] 2 rfl mo_ob rfl rfl (ctX9_sideOf hl _ _ _ hq6) ⟨wl5 (i := 77) rfl rfl, ciX9_sideOf⟩ (wl5 (i := 79) rfl rfl) (wl0 (i := 29) rfl rfl) dX9_canPlay_59 rfl rfl (Nat.le_of_ble_eq_true rfl) ⟨Nat.le_of_ble_eq_true rfl, Nat.le_of_ble_eq_true rfl⟩ ⟨Nat.le_of_ble_eq_true rfl, Nat.le_of_ble_eq_true rfl⟩ ?_
      refine aw_iload_n 4 dX9_canPlay_62 rfl ?_
      obtain ⟨q7, hq7, hf⟩ := xbind hf
      refine aw_callV 7 (some mo) [.long (m_J S 18 (m_I S 11 a1.toNatClampNeg).toNatClampNeg), .long (m_J S 19 (m_I S 11 a1.toNatClampNeg).toNatClampNeg), .int q6, .int a2] 4 rfl mo_ob rfl rfl (ctX9_puts hl _ _ _ _ _ hq7) ⟨wl5 (i := 81) rfl rfl, ciX9_puts⟩ (wl5 (i := 83) rfl rfl) (wl0 (i := 30) rfl rfl) dX9_canPlay_63 rfl rfl (Nat.le_of_ble_eq_true rfl) ⟨Nat.le_of_ble_eq_true rfl, Nat.le_of_ble_eq_true rfl⟩ ⟨Nat.le_of_ble_eq_true rfl, Nat.le_of_ble_eq_true rfl⟩ ?_
      refine aw_aload_n 2 dX9_canPlay_66 rfl ?_
      refine mo_getI 28 rfl (by decide) (wl4 (i := 126) rfl rfl) dX9_canPlay_67 ?_
      refine aw_if_ne 98 dX9_canPlay_70 (by decide) (fun c8 => ?_) (fun c8 => ?_)
      · rw [if_neg c8] at hf
        refine aw_iconst (0 : Int32) dX9_canPlay_98 (by decide) ?_
        cases hf
        exact aw_zret dX9_canPlay_99 rfl rfl rfl rfl ⟨Nat.le_of_ble_eq_true rfl, Nat.le_of_ble_eq_true rfl⟩
      · rw [if_pos c8] at hf
        refine aw_aload_n 2 dX9_canPlay_73 rfl ?_
        refine aw_aload_n 2 dX9_canPlay_74 rfl ?_
        refine mo_getR 13 11 rfl (by decide) (wl4 (i := 111) rfl rfl) dX9_canPlay_75 ?_
        refine aw_iload_n 3 dX9_canPlay_78 rfl ?_
        refine mo_iald 11 16 rfl (xin_v hi1) dX9_canPlay_79 ?_
        refine aw_aload_n 2 dX9_canPlay_80 rfl ?_
        refine mo_getJ 25 rfl (by decide) (wl4 (i := 123) rfl rfl) dX9_canPlay_81 ?_
        refine aw_aload_n 2 dX9_canPlay_84 rfl ?_
        refine mo_getJ 26 rfl (by decide) (wl4 (i := 124) rfl rfl) dX9_canPlay_85 ?_
        obtain ⟨q9, hq9, hf⟩ := xbind hf
        refine aw_callV 7 (some mo) [.int (m_I q7 11 a1.toNatClampNeg), .long (m_j q7 25), .long (m_j q7 26)] 3 rfl mo_ob rfl rfl (ctX9_wasThere hl _ _ _ _ hq9) ⟨wl5 (i := 104) rfl rfl, ciX9_wasThere⟩ (wl5 (i := 106) rfl rfl) (wl0 (i := 31) rfl rfl) dX9_canPlay_88 rfl rfl (Nat.le_of_ble_eq_true rfl) ⟨Nat.le_of_ble_eq_true rfl, Nat.le_of_ble_eq_true rfl⟩ ⟨Nat.le_of_ble_eq_true rfl, Nat.le_of_ble_eq_true rfl⟩ ?_
        refine aw_ifb_ne 98 dX9_canPlay_91 (by decide) (fun c10 => ?_) (fun c10 => ?_)
        · rw [if_neg c10] at hf
          refine aw_iconst (0 : Int32) dX9_canPlay_98 (by decide) ?_
          cases hf
          exact aw_zret dX9_canPlay_99 rfl rfl rfl rfl ⟨Nat.le_of_ble_eq_true rfl, Nat.le_of_ble_eq_true rfl⟩
        · rw [if_pos c10] at hf
          refine aw_iconst (1 : Int32) dX9_canPlay_94 (by decide) ?_
          refine aw_goto 99 dX9_canPlay_95 (by decide) ?_
          cases hf
          exact aw_zret dX9_canPlay_99 rfl rfl rfl rfl ⟨Nat.le_of_ble_eq_true rfl, Nat.le_of_ble_eq_true rfl⟩
    · rw [if_pos c5] at hf
      refine aw_iconst (0 : Int32) dX9_canPlay_45 (by decide) ?_
      cases hf
      exact aw_zret dX9_canPlay_46 rfl rfl rfl rfl ⟨Nat.le_of_ble_eq_true rfl, Nat.le_of_ble_eq_true rfl⟩
abbrev MX9_libertiesAt : xM := (RX9, cX9_libertiesAt, 6, (some .int), "libertiesAt")
abbrev rmX9_libertiesAt : Room := { frames := 3, cells := 0, slots := 0, locals := 72 }
theorem ciX9_libertiesAt : Cond.code yX9_libertiesAt cX9_libertiesAt 6 (some .int) ∈ wt ∧ Cond.initialized yX9_libertiesAt.cls ∈ wt ∧ (yX9_libertiesAt.cls ≠ "java/lang/invoke/MethodHandle" ∧ yX9_libertiesAt.cls ≠ "java/lang/invoke/VarHandle" ∧ (parseMethodDescriptor yX9_libertiesAt.desc).map (fun d => d.parameters.length) = some 3) := ⟨wl5 (i := 218) rfl rfl, wl1 (i := 4) rfl rfl, by decide +kernel, by decide +kernel, by decide +kernel⟩
def fX9_libertiesAt (a1 : Int64) (a3 : Int64) (a5 : Int32) : Option (Int32) :=
  (fX9_chainAt a1 a3 a5).bind fun q1 => (fX9_free q1 a1 a3).bind fun q2 => (fX9_bits q2).bind fun q3 => some q3
set_option maxHeartbeats 4000000 in
set_option maxRecDepth 100000 in
theorem ctX9_libertiesAt {l : Launch} {g : xG} {mo sz : Nat} {S : MS} (hl : l.stackTraces = false) {r : Int32} (a1 : Int64) (a3 : Int64) (a5 : Int32) (hf : fX9_libertiesAt a1 a3 a5 = some r) : CT yX9_libertiesAt MX9_libertiesAt rmX9_libertiesAt l g [.ref mo, .long a1, .long a3, .int a5] (moE g mo sz S) (.inl (some (.int r))) (moE g mo sz S) := by
  rw [fX9_libertiesAt] at hf
  refine CT.of (lv0 := [(0, .ref mo), (1, .long a1), (3, .long a3), (5, .int a5)]) (by decide +kernel) rfl rfl (Nat.le_of_ble_eq_true rfl) rfl hl ?_
  refine aw_lload_n 1 dX9_libertiesAt_0 rfl ?_
  refine aw_lload_n 2 dX9_libertiesAt_1 rfl ?_
  refine aw_iload 3 dX9_libertiesAt_2 rfl ?_
  obtain ⟨q1, hq1, hf⟩ := xbind hf
  refine aw_callS [.long a1, .long a3, .int a5] 3 (ctX9_chainAt hl _ _ _ hq1) ⟨wl5 (i := 168) rfl rfl, ciX9_chainAt⟩ (wl5 (i := 169) rfl rfl) dX9_libertiesAt_4 rfl rfl (Nat.le_of_ble_eq_true rfl) ⟨Nat.le_of_ble_eq_true rfl, Nat.le_of_ble_eq_true rfl⟩ ⟨Nat.le_of_ble_eq_true rfl, Nat.le_of_ble_eq_true rfl⟩ ?_
  refine aw_lload_n 1 dX9_libertiesAt_7 rfl ?_
  refine aw_lload_n 2 dX9_libertiesAt_8 rfl ?_
  obtain ⟨q2, hq2, hf⟩ := xbind hf
  refine aw_callS [.long q1, .long a1, .long a3] 3 (ctX9_free hl _ _ _ hq2) ⟨wl5 (i := 98) rfl rfl, ciX9_free⟩ (wl5 (i := 99) rfl rfl) dX9_libertiesAt_9 rfl rfl (Nat.le_of_ble_eq_true rfl) ⟨Nat.le_of_ble_eq_true rfl, Nat.le_of_ble_eq_true rfl⟩ ⟨Nat.le_of_ble_eq_true rfl, Nat.le_of_ble_eq_true rfl⟩ ?_
  obtain ⟨q3, hq3, hf⟩ := xbind hf
  refine aw_callS [.long q2] 1 (ctX9_bits hl _ hq3) ⟨wl5 (i := 101) rfl rfl, ciX9_bits⟩ (wl5 (i := 102) rfl rfl) dX9_libertiesAt_12 rfl rfl (Nat.le_of_ble_eq_true rfl) ⟨Nat.le_of_ble_eq_true rfl, Nat.le_of_ble_eq_true rfl⟩ ⟨Nat.le_of_ble_eq_true rfl, Nat.le_of_ble_eq_true rfl⟩ ?_
  cases hf
  exact aw_iret dX9_libertiesAt_15 rfl rfl rfl ⟨Nat.le_of_ble_eq_true rfl, Nat.le_of_ble_eq_true rfl⟩
abbrev MX9_replies : xM := (RX9, cX9_replies, 19, (some .long), "replies")
abbrev rmX9_replies : Room := { frames := 3, cells := 0, slots := 0, locals := 72 }
theorem ciX9_replies : Cond.code yX9_replies cX9_replies 19 (some .long) ∈ wt ∧ Cond.initialized yX9_replies.cls ∈ wt ∧ (yX9_replies.cls ≠ "java/lang/invoke/MethodHandle" ∧ yX9_replies.cls ≠ "java/lang/invoke/VarHandle" ∧ (parseMethodDescriptor yX9_replies.desc).map (fun d => d.parameters.length) = some 4) := ⟨wl5 (i := 229) rfl rfl, wl1 (i := 4) rfl rfl, by decide +kernel, by decide +kernel, by decide +kernel⟩
def fX9_replies_97 (k40 : Int64 → Int64 → Int64 → Int64 → Int64 → Option (Int64)) (a1 : Int64) (a3 : Int64) (a9 : Int64) (a13 : Int64) (s0 : Int64) (s1 : Int64) : Option (Int64) :=
  k40 a1 a3 a9 (s0 ||| s1) a13
set_option maxHeartbeats 4000000 in
set_option maxRecDepth 100000 in
theorem wkX9_replies_97 {l : Launch} {g : xG} {x0 : xV} {mo sz : Nat} {S : MS} (hl : l.stackTraces = false) {r : Int64} (k40 : Int64 → Int64 → Int64 → Int64 → Int64 → Option (Int64)) (hk40 : ∀ (a1 : Int64) (a3 : Int64) (a9 : Int64) (a11 : Int64) (a13 : Int64), k40 a1 a3 a9 a11 a13 = some r → AW MX9_replies rmX9_replies l g x0 (.inl (some (.long r))) (moE g mo sz S) 0 0 (moE g mo sz S) 40 [(1, .long a1), (3, .long a3), (9, .long a9), (11, .long a11), (13, .long a13)] []) (a1 : Int64) (a3 : Int64) (a9 : Int64) (a13 : Int64) (s0 : Int64) (s1 : Int64) (hf : fX9_replies_97 k40 a1 a3 a9 a13 s0 s1 = some r) : AW MX9_replies rmX9_replies l g x0 (.inl (some (.long r))) (moE g mo sz S) 0 0 (moE g mo sz S) 97 [(1, .long a1), (3, .long a3), (9, .long a9), (13, .long a13)] [.long s1, .long s0] := by
  rw [fX9_replies_97] at hf
  refine aw_lor dX9_replies_97 ?_
  refine aw_lstore [(11, .long (s0 ||| s1)), (1, .long a1), (3, .long a3), (9, .long a9), (13, .long a13)] dX9_replies_98 (by decide) rfl ?_
  refine aw_goto 40 dX9_replies_100 (by decide) ?_
  refine aw_lv [1, 2, 3, 0, 4] rfl ?_
  exact hk40 _ _ _ _ _ hf
def fX9_replies_40 : Nat → Int64 → Int64 → Int64 → Int64 → Int64 → Option (Int64)
  | 0, _, _, _, _, _ => none
  | n + 1, a1, a3, a9, a11, a13 =>
    (if a13 = (0 : Int64) then some a11 else (fX9_flood (a13 &&& (-a13)) a9).bind fun q2 => (fX9_free q2 a1 a3).bind fun q3 => (fX9_bits q3).bind fun q4 => (if q4 = (1 : Int32) then fX9_replies_97 (fX9_replies_40 n) a1 a3 a9 (a13 &&& (q2 ^^^ (-1 : Int64))) a11 q3 else fX9_replies_97 (fX9_replies_40 n) a1 a3 a9 (a13 &&& (q2 ^^^ (-1 : Int64))) a11 (0 : Int64)))
set_option maxHeartbeats 4000000 in
set_option maxRecDepth 100000 in
theorem wkX9_replies_40 {l : Launch} {g : xG} {x0 : xV} {mo sz : Nat} {S : MS} (hl : l.stackTraces = false) {r : Int64} : ∀ (n : Nat) (a1 : Int64) (a3 : Int64) (a9 : Int64) (a11 : Int64) (a13 : Int64), fX9_replies_40 n a1 a3 a9 a11 a13 = some r → AW MX9_replies rmX9_replies l g x0 (.inl (some (.long r))) (moE g mo sz S) 0 0 (moE g mo sz S) 40 [(1, .long a1), (3, .long a3), (9, .long a9), (11, .long a11), (13, .long a13)] [] := by
  intro n
  induction n with
  | zero => intro a1 a3 a9 a11 a13 hf; exact absurd hf (by simp [fX9_replies_40])
  | succ n hk40 =>
    intro a1 a3 a9 a11 a13 hf
    rw [fX9_replies_40] at hf
    refine aw_lload 4 dX9_replies_40 rfl ?_
    refine aw_lconst (0 : Int64) dX9_replies_42 (by decide) ?_
    refine aw_lcmp_eq 103 dX9_replies_43 dX9_replies_44 (by decide) (fun c1 => ?_) (fun c1 => ?_)
    · rw [if_pos c1] at hf
      refine aw_lload 3 dX9_replies_103 rfl ?_
      cases hf
      exact aw_lret dX9_replies_105 rfl rfl rfl ⟨Nat.le_of_ble_eq_true rfl, Nat.le_of_ble_eq_true rfl⟩
    · rw [if_neg c1] at hf
      refine aw_lload 4 dX9_replies_47 rfl ?_
      refine aw_lload 4 dX9_replies_49 rfl ?_
      refine aw_lneg dX9_replies_51 ?_
      refine aw_land dX9_replies_52 ?_
      refine aw_lload 2 dX9_replies_53 rfl ?_
      obtain ⟨q2, hq2, hf⟩ := xbind hf
      refine aw_callS [.long (a13 &&& (-a13)), .long a9] 2 (ctX9_flood hl _ _ hq2) ⟨wl5 (i := 88) rfl rfl, ciX9_flood⟩ (wl5 (i := 89) rfl rfl) dX9_replies_55 rfl rfl (Nat.le_of_ble_eq_true rfl) ⟨Nat.le_of_ble_eq_true rfl, Nat.le_of_ble_eq_true rfl⟩ ⟨Nat.le_of_ble_eq_true rfl, Nat.le_of_ble_eq_true rfl⟩ ?_
      refine aw_lstore [(15, .long q2), (1, .long a1), (3, .long a3), (9, .long a9), (11, .long a11), (13, .long a13)] dX9_replies_58 (by decide) rfl ?_
      refine aw_lload 5 dX9_replies_60 rfl ?_
      refine aw_lload 0 dX9_replies_62 rfl ?_
      refine aw_ldc2 (-1 : Int64) rfl (wl5 (i := 97) rfl rfl) dX9_replies_64 ?_
      refine aw_lxor dX9_replies_67 ?_
      refine aw_land dX9_replies_68 ?_
      refine aw_lstore [(13, .long (a13 &&& (q2 ^^^ (-1 : Int64)))), (15, .long q2), (1, .long a1), (3, .long a3), (9, .long a9), (11, .long a11)] dX9_replies_69 (by decide) rfl ?_
      refine aw_lload 1 dX9_replies_71 rfl ?_
      refine aw_lload_n 2 dX9_replies_73 rfl ?_
      refine aw_lload_n 3 dX9_replies_74 rfl ?_
      obtain ⟨q3, hq3, hf⟩ := xbind hf
      refine aw_callS [.long q2, .long a1, .long a3] 3 (ctX9_free hl _ _ _ hq3) ⟨wl5 (i := 98) rfl rfl, ciX9_free⟩ (wl5 (i := 99) rfl rfl) dX9_replies_75 rfl rfl (Nat.le_of_ble_eq_true rfl) ⟨Nat.le_of_ble_eq_true rfl, Nat.le_of_ble_eq_true rfl⟩ ⟨Nat.le_of_ble_eq_true rfl, Nat.le_of_ble_eq_true rfl⟩ ?_
      refine aw_lstore [(17, .long q3), (13, .long (a13 &&& (q2 ^^^ (-1 : Int64)))), (15, .long q2), (1, .long a1), (3, .long a3), (9, .long a9), (11, .long a11)] dX9_replies_78 (by decide) rfl ?_
      refine aw_lload 6 dX9_replies_80 rfl ?_
      refine aw_lload 0 dX9_replies_82 rfl ?_
      obtain ⟨q4, hq4, hf⟩ := xbind hf
      refine aw_callS [.long q3] 1 (ctX9_bits hl _ hq4) ⟨wl5 (i := 101) rfl rfl, ciX9_bits⟩ (wl5 (i := 102) rfl rfl) dX9_replies_84 rfl rfl (Nat.le_of_ble_eq_true rfl) ⟨Nat.le_of_ble_eq_true rfl, Nat.le_of_ble_eq_true rfl⟩ ⟨Nat.le_of_ble_eq_true rfl, Nat.le_of_ble_eq_true rfl⟩ ?_
      refine aw_iconst (1 : Int32) dX9_replies_87 (by decide) ?_
      refine aw_icmp_ne 96 dX9_replies_88 (by decide) (fun c5 => ?_) (fun c5 => ?_)
      · rw [if_neg c5] at hf
        refine aw_lconst (0 : Int64) dX9_replies_96 (by decide) ?_
        refine aw_lv [3, 4, 5, 1] rfl ?_
        exact wkX9_replies_97 hl _ hk40 _ _ _ _ _ _ hf
      · rw [if_pos c5] at hf
        refine aw_lload 0 dX9_replies_91 rfl ?_
        refine aw_goto 97 dX9_replies_93 (by decide) ?_
        refine aw_lv [3, 4, 5, 1] rfl ?_
        exact wkX9_replies_97 hl _ hk40 _ _ _ _ _ _ hf
def fX9_replies_19 (a1 : Int64) (a3 : Int64) (a7 : Int64) (s0 : Int64) : Option (Int64) :=
  (fX9_free a7 a1 a3).bind fun q1 => (fX9_around a7).bind fun q2 => fX9_replies_40 FU a1 a3 s0 q1 (q2 &&& s0)
set_option maxHeartbeats 4000000 in
set_option maxRecDepth 100000 in
theorem wkX9_replies_19 {l : Launch} {g : xG} {x0 : xV} {mo sz : Nat} {S : MS} (hl : l.stackTraces = false) {r : Int64} (a1 : Int64) (a3 : Int64) (a7 : Int64) (s0 : Int64) (hf : fX9_replies_19 a1 a3 a7 s0 = some r) : AW MX9_replies rmX9_replies l g x0 (.inl (some (.long r))) (moE g mo sz S) 0 0 (moE g mo sz S) 19 [(1, .long a1), (3, .long a3), (7, .long a7)] [.long s0] := by
  rw [fX9_replies_19] at hf
  refine aw_lstore [(9, .long s0), (1, .long a1), (3, .long a3), (7, .long a7)] dX9_replies_19 (by decide) rfl ?_
  refine aw_lload 3 dX9_replies_21 rfl ?_
  refine aw_lload_n 1 dX9_replies_23 rfl ?_
  refine aw_lload_n 2 dX9_replies_24 rfl ?_
  obtain ⟨q1, hq1, hf⟩ := xbind hf
  refine aw_callS [.long a7, .long a1, .long a3] 3 (ctX9_free hl _ _ _ hq1) ⟨wl5 (i := 98) rfl rfl, ciX9_free⟩ (wl5 (i := 99) rfl rfl) dX9_replies_25 rfl rfl (Nat.le_of_ble_eq_true rfl) ⟨Nat.le_of_ble_eq_true rfl, Nat.le_of_ble_eq_true rfl⟩ ⟨Nat.le_of_ble_eq_true rfl, Nat.le_of_ble_eq_true rfl⟩ ?_
  refine aw_lstore [(11, .long q1), (9, .long s0), (1, .long a1), (3, .long a3), (7, .long a7)] dX9_replies_28 (by decide) rfl ?_
  refine aw_lload 4 dX9_replies_30 rfl ?_
  obtain ⟨q2, hq2, hf⟩ := xbind hf
  refine aw_callS [.long a7] 1 (ctX9_around hl _ hq2) ⟨wl5 (i := 91) rfl rfl, ciX9_around⟩ (wl5 (i := 92) rfl rfl) dX9_replies_32 rfl rfl (Nat.le_of_ble_eq_true rfl) ⟨Nat.le_of_ble_eq_true rfl, Nat.le_of_ble_eq_true rfl⟩ ⟨Nat.le_of_ble_eq_true rfl, Nat.le_of_ble_eq_true rfl⟩ ?_
  refine aw_lload 1 dX9_replies_35 rfl ?_
  refine aw_land dX9_replies_37 ?_
  refine aw_lstore [(13, .long (q2 &&& s0)), (11, .long q1), (9, .long s0), (1, .long a1), (3, .long a3), (7, .long a7)] dX9_replies_38 (by decide) rfl ?_
  refine aw_lv [3, 4, 2, 1, 0] rfl ?_
  exact wkX9_replies_40 hl _ _ _ _ _ _ hf
def fX9_replies (a1 : Int64) (a3 : Int64) (a5 : Int32) (a6 : Int32) : Option (Int64) :=
  (fX9_chainAt a1 a3 a5).bind fun q1 => (if a6 = 0 then fX9_replies_19 a1 a3 q1 a3 else fX9_replies_19 a1 a3 q1 a1)
set_option maxHeartbeats 4000000 in
set_option maxRecDepth 100000 in
theorem ctX9_replies {l : Launch} {g : xG} {mo sz : Nat} {S : MS} (hl : l.stackTraces = false) {r : Int64} (a1 : Int64) (a3 : Int64) (a5 : Int32) (a6 : Int32) (hf : fX9_replies a1 a3 a5 a6 = some r) : CT yX9_replies MX9_replies rmX9_replies l g [.ref mo, .long a1, .long a3, .int a5, .int a6] (moE g mo sz S) (.inl (some (.long r))) (moE g mo sz S) := by
  rw [fX9_replies] at hf
  refine CT.of (lv0 := [(0, .ref mo), (1, .long a1), (3, .long a3), (5, .int a5), (6, .int a6)]) (by decide +kernel) rfl rfl (Nat.le_of_ble_eq_true rfl) rfl hl ?_
  refine aw_lload_n 1 dX9_replies_0 rfl ?_
  refine aw_lload_n 2 dX9_replies_1 rfl ?_
  refine aw_iload 3 dX9_replies_2 rfl ?_
  obtain ⟨q1, hq1, hf⟩ := xbind hf
  refine aw_callS [.long a1, .long a3, .int a5] 3 (ctX9_chainAt hl _ _ _ hq1) ⟨wl5 (i := 168) rfl rfl, ciX9_chainAt⟩ (wl5 (i := 169) rfl rfl) dX9_replies_4 rfl rfl (Nat.le_of_ble_eq_true rfl) ⟨Nat.le_of_ble_eq_true rfl, Nat.le_of_ble_eq_true rfl⟩ ⟨Nat.le_of_ble_eq_true rfl, Nat.le_of_ble_eq_true rfl⟩ ?_
  refine aw_lstore [(7, .long q1), (0, .ref mo), (1, .long a1), (3, .long a3), (5, .int a5), (6, .int a6)] dX9_replies_7 (by decide) rfl ?_
  refine aw_iload 5 dX9_replies_9 rfl ?_
  refine aw_if_ne 18 dX9_replies_11 (by decide) (fun c2 => ?_) (fun c2 => ?_)
  · rw [if_neg c2] at hf
    refine aw_lload_n 2 dX9_replies_18 rfl ?_
    refine aw_lv [2, 3, 0] rfl ?_
    exact wkX9_replies_19 hl _ _ _ _ hf
  · rw [if_pos c2] at hf
    refine aw_lload_n 3 dX9_replies_14 rfl ?_
    refine aw_goto 19 dX9_replies_15 (by decide) ?_
    refine aw_lv [2, 3, 0] rfl ?_
    exact wkX9_replies_19 hl _ _ _ _ hf
