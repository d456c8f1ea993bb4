abbrev MX9_node : xM := (RX9, cX9_node, 6, (some .int), "node")
abbrev rmX9_node : Room := { frames := 2, cells := 0, slots := 0, locals := 43 }
theorem ciX9_node : Cond.code yX9_node cX9_node 6 (some .int) ∈ wt ∧ Cond.initialized yX9_node.cls ∈ wt ∧ (yX9_node.cls ≠ "java/lang/invoke/MethodHandle" ∧ yX9_node.cls ≠ "java/lang/invoke/VarHandle" ∧ (parseMethodDescriptor yX9_node.desc).map (fun d => d.parameters.length) = some 1) := ⟨wl6 (i := 33) rfl rfl, wl1 (i := 4) rfl rfl, by decide +kernel, by decide +kernel, by decide +kernel⟩
def fX9_node_159 (S : MS) (s0 : Int32) (s1 : Int32) : Option (Int32 × MS) :=
  some ((s0 + s1), S)
set_option maxHeartbeats 4000000 in
set_option maxRecDepth 100000 in
theorem wkX9_node_159 {l : Launch} {g : xG} {x0 : xV} {mo sz : Nat} (hl : l.stackTraces = false) {r : Int32 × MS} (S : MS) (s0 : Int32) (s1 : Int32) (hf : fX9_node_159 S s0 s1 = some r) : AW MX9_node rmX9_node l g x0 (.inl (some (.int r.1))) (moE g mo sz r.2) 0 0 (moE g mo sz S) 159 [] [.int s1, .int s0] := by
  rw [fX9_node_159] at hf
  refine aw_iadd dX9_node_159 ?_
  cases hf
  exact aw_iret dX9_node_160 rfl rfl rfl ⟨Nat.le_of_ble_eq_true rfl, Nat.le_of_ble_eq_true rfl⟩
def fX9_node_120 (k68 : MS → Int32 → Int32 → Int32 → Int32 → Int32 → Option (Int32 × MS)) (S : MS) (a1 : Int32) (a2 : Int32) (a3 : Int32) (a5 : Int32) (s0 : Int32) : Option (Int32 × MS) :=
  k68 S a1 a2 a3 s0 (a5 + (1 : Int32))
set_option maxHeartbeats 4000000 in
set_option maxRecDepth 100000 in
theorem wkX9_node_120 {l : Launch} {g : xG} {x0 : xV} {mo sz : Nat} (hl : l.stackTraces = false) {r : Int32 × MS} (k68 : MS → Int32 → Int32 → Int32 → Int32 → Int32 → Option (Int32 × MS)) (hk68 : ∀ (S : MS) (a1 : Int32) (a2 : Int32) (a3 : Int32) (a4 : Int32) (a5 : Int32), k68 S a1 a2 a3 a4 a5 = some r → AW MX9_node rmX9_node l g x0 (.inl (some (.int r.1))) (moE g mo sz r.2) 0 0 (moE g mo sz S) 68 [(0, .ref mo), (1, .int a1), (2, .int a2), (3, .int a3), (4, .int a4), (5, .int a5)] []) (S : MS) (a1 : Int32) (a2 : Int32) (a3 : Int32) (a5 : Int32) (s0 : Int32) (hf : fX9_node_120 k68 S a1 a2 a3 a5 s0 = some r) : AW MX9_node rmX9_node l g x0 (.inl (some (.int r.1))) (moE g mo sz r.2) 0 0 (moE g mo sz S) 120 [(0, .ref mo), (1, .int a1), (2, .int a2), (3, .int a3), (5, .int a5)] [.int s0] := by
  rw [fX9_node_120] at hf
  refine aw_istore [(4, .int s0), (0, .ref mo), (1, .int a1), (2, .int a2), (3, .int a3), (5, .int a5)] dX9_node_120 (by decide) rfl ?_
  refine aw_iinc [(5, .int (a5 + (1 : Int32))), (4, .int s0), (0, .ref mo), (1, .int a1), (2, .int a2), (3, .int a3)] 5 dX9_node_122 rfl rfl (by decide) rfl ?_
  refine aw_goto 68 dX9_node_125 (by decide) ?_
  refine aw_lv [2, 3, 4, 5, 1, 0] rfl ?_
  exact hk68 _ _ _ _ _ _ hf
def fX9_node_98 (k68 : MS → Int32 → Int32 → Int32 → Int32 → Int32 → Option (Int32 × MS)) (S : MS) (a1 : Int32) (a2 : Int32) (a4 : Int32) (a5 : Int32) (s0 : Int32) : Option (Int32 × MS) :=
  (if a4 = 0 then (if xin a5 240 = true then (if (m_I S 36 a5.toNatClampNeg) = (2 : Int32) then fX9_node_120 k68 S a1 a2 s0 a5 (1 : Int32) else fX9_node_120 k68 S a1 a2 s0 a5 (0 : Int32)) else none) else fX9_node_120 k68 S a1 a2 s0 a5 (1 : Int32))
set_option maxHeartbeats 4000000 in
set_option maxRecDepth 100000 in
theorem wkX9_node_98 {l : Launch} {g : xG} {x0 : xV} {mo sz : Nat} (hl : l.stackTraces = false) {r : Int32 × MS} (k68 : MS → Int32 → Int32 → Int32 → Int32 → Int32 → Option (Int32 × MS)) (hk68 : ∀ (S : MS) (a1 : Int32) (a2 : Int32) (a3 : Int32) (a4 : Int32) (a5 : Int32), k68 S a1 a2 a3 a4 a5 = some r → AW MX9_node rmX9_node l g x0 (.inl (some (.int r.1))) (moE g mo sz r.2) 0 0 (moE g mo sz S) 68 [(0, .ref mo), (1, .int a1), (2, .int a2), (3, .int a3), (4, .int a4), (5, .int a5)] []) (S : MS) (a1 : Int32) (a2 : Int32) (a4 : Int32) (a5 : Int32) (s0 : Int32) (hf : fX9_node_98 k68 S a1 a2 a4 a5 s0 = some r) : AW MX9_node rmX9_node l g x0 (.inl (some (.int r.1))) (moE g mo sz r.2) 0 0 (moE g mo sz S) 98 [(0, .ref mo), (1, .int a1), (2, .int a2), (4, .int a4), (5, .int a5)] [.int s0] := by
  rw [fX9_node_98] at hf
  refine aw_istore_n [(3, .int s0), (0, .ref mo), (1, .int a1), (2, .int a2), (4, .int a4), (5, .int a5)] dX9_node_98 rfl (by decide) rfl ?_
  refine aw_iload 4 dX9_node_99 rfl ?_
  refine aw_if_ne 115 dX9_node_101 (by decide) (fun c1 => ?_) (fun c1 => ?_)
  · rw [if_neg c1] at hf
    refine aw_iconst (1 : Int32) dX9_node_115 (by decide) ?_
    refine aw_goto 120 dX9_node_116 (by decide) ?_
    refine aw_lv [1, 2, 3, 0, 5] rfl ?_
    exact wkX9_node_120 hl _ hk68 _ _ _ _ _ _ hf
  · rw [if_pos c1] at hf
    refine aw_aload_n 1 dX9_node_104 rfl ?_
    refine mo_getR 45 36 rfl (by decide) (wl4 (i := 143) rfl rfl) dX9_node_105 ?_
    refine aw_iload 5 dX9_node_108 rfl ?_
    obtain ⟨hi2, hf⟩ := xifn hf
    refine mo_iald 36 240 rfl (xin_v hi2) dX9_node_110 ?_
    refine aw_iconst (2 : Int32) dX9_node_111 (by decide) ?_
    refine aw_icmp_ne 119 dX9_node_112 (by decide) (fun c3 => ?_) (fun c3 => ?_)
    · rw [if_neg c3] at hf
      refine aw_iconst (0 : Int32) dX9_node_119 (by decide) ?_
      refine aw_lv [1, 2, 3, 0, 5] rfl ?_
      exact wkX9_node_120 hl _ hk68 _ _ _ _ _ _ hf
    · rw [if_pos c3] at hf
      refine aw_iconst (1 : Int32) dX9_node_115 (by decide) ?_
      refine aw_goto 120 dX9_node_116 (by decide) ?_
      refine aw_lv [1, 2, 3, 0, 5] rfl ?_
      exact wkX9_node_120 hl _ hk68 _ _ _ _ _ _ hf
def fX9_node_68 : Nat → MS → Int32 → Int32 → Int32 → Int32 → Int32 → Option (Int32 × MS)
  | 0, _, _, _, _, _, _ => none
  | n + 1, S, a1, a2, a3, a4, a5 =>
    (if (((4 : Int32) * a1) + (4 : Int32)) ≤ a5 then (if xin a1 60 = true then (if a3 = 0 then fX9_node_159 S (((1000 : Int32) * a2) + ((10 : Int32) * ((m_I S 30 a1.toNatClampNeg) + (2 : Int32)))) (0 : Int32) else (if a4 = 0 then fX9_node_159 S (((1000 : Int32) * a2) + ((10 : Int32) * ((m_I S 30 a1.toNatClampNeg) + (2 : Int32)))) (0 : Int32) else fX9_node_159 S (((1000 : Int32) * a2) + ((10 : Int32) * ((m_I S 30 a1.toNatClampNeg) + (2 : Int32)))) (1 : Int32))) else none) else (if a3 = 0 then (if xin a5 240 = true then (if (m_I S 36 a5.toNatClampNeg) = (1 : Int32) then fX9_node_98 (fX9_node_68 n) S a1 a2 a4 a5 (1 : Int32) else fX9_node_98 (fX9_node_68 n) S a1 a2 a4 a5 (0 : Int32)) else none) else fX9_node_98 (fX9_node_68 n) S a1 a2 a4 a5 (1 : Int32)))
set_option maxHeartbeats 4000000 in
set_option maxRecDepth 100000 in
theorem wkX9_node_68 {l : Launch} {g : xG} {x0 : xV} {mo sz : Nat} (hl : l.stackTraces = false) {r : Int32 × MS} : ∀ (n : Nat) (S : MS) (a1 : Int32) (a2 : Int32) (a3 : Int32) (a4 : Int32) (a5 : Int32), fX9_node_68 n S a1 a2 a3 a4 a5 = some r → AW MX9_node rmX9_node l g x0 (.inl (some (.int r.1))) (moE g mo sz r.2) 0 0 (moE g mo sz S) 68 [(0, .ref mo), (1, .int a1), (2, .int a2), (3, .int a3), (4, .int a4), (5, .int a5)] [] := by
  intro n
  induction n with
  | zero => intro S a1 a2 a3 a4 a5 hf; exact absurd hf (by simp [fX9_node_68])
  | succ n hk68 =>
    intro S a1 a2 a3 a4 a5 hf
    rw [fX9_node_68] at hf
    refine aw_iload 5 dX9_node_68 rfl ?_
    refine aw_iconst (4 : Int32) dX9_node_70 (by decide) ?_
    refine aw_iload_n 1 dX9_node_71 rfl ?_
    refine aw_imul dX9_node_72 ?_
    refine aw_iconst (4 : Int32) dX9_node_73 (by decide) ?_
    refine aw_iadd dX9_node_74 ?_
    refine aw_icmp_ge 128 dX9_node_75 (by decide) (fun c1 => ?_) (fun c1 => ?_)
    · rw [if_pos c1] at hf
      refine aw_sipush (1000 : Int32) dX9_node_128 (by decide) ?_
      refine aw_iload_n 2 dX9_node_131 rfl ?_
      refine aw_imul dX9_node_132 ?_
      refine aw_bipush (10 : Int32) dX9_node_133 (by decide) ?_
      refine aw_aload_n 0 dX9_node_135 rfl ?_
      refine mo_getR 39 30 rfl (by decide) (wl4 (i := 137) rfl rfl) dX9_node_136 ?_
      refine aw_iload_n 1 dX9_node_139 rfl ?_
      obtain ⟨hi2, hf⟩ := xifn hf
      refine mo_iald 30 60 rfl (xin_v hi2) dX9_node_140 ?_
      refine aw_iconst (2 : Int32) dX9_node_141 (by decide) ?_
      refine aw_iadd dX9_node_142 ?_
      refine aw_imul dX9_node_143 ?_
      refine aw_iadd dX9_node_144 ?_
      refine aw_iload_n 3 dX9_node_145 rfl ?_
      refine aw_if_eq 158 dX9_node_146 (by decide) (fun c3 => ?_) (fun c3 => ?_)
      · rw [if_pos c3] at hf
        refine aw_iconst (0 : Int32) dX9_node_158 (by decide) ?_
        refine aw_lv [] rfl ?_
        exact wkX9_node_159 hl _ _ _ hf
      · rw [if_neg c3] at hf
        refine aw_iload 4 dX9_node_149 rfl ?_
        refine aw_if_eq 158 dX9_node_151 (by decide) (fun c4 => ?_) (fun c4 => ?_)
        · rw [if_pos c4] at hf
          refine aw_iconst (0 : Int32) dX9_node_158 (by decide) ?_
          refine aw_lv [] rfl ?_
          exact wkX9_node_159 hl _ _ _ hf
        · rw [if_neg c4] at hf
          refine aw_iconst (1 : Int32) dX9_node_154 (by decide) ?_
          refine aw_goto 159 dX9_node_155 (by decide) ?_
          refine aw_lv [] rfl ?_
          exact wkX9_node_159 hl _ _ _ hf
    · rw [if_neg c1] at hf
      refine aw_iload_n 3 dX9_node_78 rfl ?_
      refine aw_if_ne 93 dX9_node_79 (by decide) (fun c5 => ?_) (fun c5 => ?_)
      · rw [if_neg c5] at hf
        refine aw_iconst (1 : Int32) dX9_node_93 (by decide) ?_
        refine aw_goto 98 dX9_node_94 (by decide) ?_
        refine aw_lv [0, 1, 2, 4, 5] rfl ?_
        exact wkX9_node_98 hl _ hk68 _ _ _ _ _ _ hf
      · rw [if_pos c5] at hf
        refine aw_aload_n 0 dX9_node_82 rfl ?_
        refine mo_getR 45 36 rfl (by decide) (wl4 (i := 143) rfl rfl) dX9_node_83 ?_
        refine aw_iload 5 dX9_node_86 rfl ?_
        obtain ⟨hi6, hf⟩ := xifn hf
        refine mo_iald 36 240 rfl (xin_v hi6) dX9_node_88 ?_
        refine aw_iconst (1 : Int32) dX9_node_89 (by decide) ?_
        refine aw_icmp_ne 97 dX9_node_90 (by decide) (fun c7 => ?_) (fun c7 => ?_)
        · rw [if_neg c7] at hf
          refine aw_iconst (0 : Int32) dX9_node_97 (by decide) ?_
          refine aw_lv [0, 1, 2, 4, 5] rfl ?_
          exact wkX9_node_98 hl _ hk68 _ _ _ _ _ _ hf
        · rw [if_pos c7] at hf
          refine aw_iconst (1 : Int32) dX9_node_93 (by decide) ?_
          refine aw_goto 98 dX9_node_94 (by decide) ?_
          refine aw_lv [0, 1, 2, 4, 5] rfl ?_
          exact wkX9_node_98 hl _ hk68 _ _ _ _ _ _ hf
def fX9_node_50 (k26 : MS → Int32 → Int32 → Int32 → Option (Int32 × MS)) (S : MS) (a1 : Int32) (a3 : Int32) (s0 : Int32) (s1 : Int32) : Option (Int32 × MS) :=
  k26 S a1 (s0 + s1) (a3 + (1 : Int32))
set_option maxHeartbeats 4000000 in
set_option maxRecDepth 100000 in
theorem wkX9_node_50 {l : Launch} {g : xG} {x0 : xV} {mo sz : Nat} (hl : l.stackTraces = false) {r : Int32 × MS} (k26 : MS → Int32 → Int32 → Int32 → Option (Int32 × MS)) (hk26 : ∀ (S : MS) (a1 : Int32) (a2 : Int32) (a3 : Int32), k26 S a1 a2 a3 = some r → AW MX9_node rmX9_node l g x0 (.inl (some (.int r.1))) (moE g mo sz r.2) 0 0 (moE g mo sz S) 26 [(0, .ref mo), (1, .int a1), (2, .int a2), (3, .int a3)] []) (S : MS) (a1 : Int32) (a3 : Int32) (s0 : Int32) (s1 : Int32) (hf : fX9_node_50 k26 S a1 a3 s0 s1 = some r) : AW MX9_node rmX9_node l g x0 (.inl (some (.int r.1))) (moE g mo sz r.2) 0 0 (moE g mo sz S) 50 [(0, .ref mo), (1, .int a1), (3, .int a3)] [.int s1, .int s0] := by
  rw [fX9_node_50] at hf
  refine aw_iadd dX9_node_50 ?_
  refine aw_istore_n [(2, .int (s0 + s1)), (0, .ref mo), (1, .int a1), (3, .int a3)] dX9_node_51 rfl (by decide) rfl ?_
  refine aw_iinc [(3, .int (a3 + (1 : Int32))), (2, .int (s0 + s1)), (0, .ref mo), (1, .int a1)] 3 dX9_node_52 rfl rfl (by decide) rfl ?_
  refine aw_goto 26 dX9_node_55 (by decide) ?_
  refine aw_lv [2, 3, 1, 0] rfl ?_
  exact hk26 _ _ _ _ hf
def fX9_node_26 : Nat → MS → Int32 → Int32 → Int32 → Option (Int32 × MS)
  | 0, _, _, _, _ => none
  | n + 1, S, a1, a2, a3 =>
    (if (m_i S 36) ≤ a3 then fX9_node_68 FU S a1 a2 (0 : Int32) (0 : Int32) ((4 : Int32) * a1) else (if xin a3 60 = true then (if (m_I S 28 a3.toNatClampNeg) = a1 then fX9_node_50 (fX9_node_26 n) S a1 a3 a2 (1 : Int32) else fX9_node_50 (fX9_node_26 n) S a1 a3 a2 (0 : Int32)) else none))
set_option maxHeartbeats 4000000 in
set_option maxRecDepth 100000 in
theorem wkX9_node_26 {l : Launch} {g : xG} {x0 : xV} {mo sz : Nat} (hl : l.stackTraces = false) {r : Int32 × MS} : ∀ (n : Nat) (S : MS) (a1 : Int32) (a2 : Int32) (a3 : Int32), fX9_node_26 n S a1 a2 a3 = some r → AW MX9_node rmX9_node l g x0 (.inl (some (.int r.1))) (moE g mo sz r.2) 0 0 (moE g mo sz S) 26 [(0, .ref mo), (1, .int a1), (2, .int a2), (3, .int a3)] [] := by
  intro n
  induction n with
  | zero => intro S a1 a2 a3 hf; exact absurd hf (by simp [fX9_node_26])
  | succ n hk26 =>
    intro S a1 a2 a3 hf
    rw [fX9_node_26] at hf
    refine aw_iload_n 3 dX9_node_26 rfl ?_
    refine aw_aload_n 0 dX9_node_27 rfl ?_
    refine mo_getI 36 rfl (by decide) (wl4 (i := 134) rfl rfl) dX9_node_28 ?_
    refine aw_icmp_ge 58 dX9_node_31 (by decide) (fun c1 => ?_) (fun c1 => ?_)
    · rw [if_pos c1] at hf
      refine aw_iconst (0 : Int32) dX9_node_58 (by decide) ?_
      refine aw_istore_n [(3, .int (0 : Int32)), (0, .ref mo), (1, .int a1), (2, .int a2)] dX9_node_59 rfl (by decide) rfl ?_
      refine aw_iconst (0 : Int32) dX9_node_60 (by decide) ?_
      refine aw_istore [(4, .int (0 : Int32)), (3, .int (0 : Int32)), (0, .ref mo), (1, .int a1), (2, .int a2)] dX9_node_61 (by decide) rfl ?_
      refine aw_iconst (4 : Int32) dX9_node_63 (by decide) ?_
      refine aw_iload_n 3 dX9_node_64 rfl ?_
      refine aw_imul dX9_node_65 ?_
      refine aw_istore [(5, .int ((4 : Int32) * a1)), (4, .int (0 : Int32)), (3, .int (0 : Int32)), (0, .ref mo), (1, .int a1), (2, .int a2)] dX9_node_66 (by decide) rfl ?_
      refine aw_lv [3, 4, 5, 2, 1, 0] rfl ?_
      exact wkX9_node_68 hl _ _ _ _ _ _ _ hf
    · rw [if_neg c1] at hf
      refine aw_iload_n 2 dX9_node_34 rfl ?_
      refine aw_aload_n 0 dX9_node_35 rfl ?_
      refine mo_getR 37 28 rfl (by decide) (wl4 (i := 135) rfl rfl) dX9_node_36 ?_
      refine aw_iload_n 3 dX9_node_39 rfl ?_
      obtain ⟨hi2, hf⟩ := xifn hf
      refine mo_iald 28 60 rfl (xin_v hi2) dX9_node_40 ?_
      refine aw_iload_n 1 dX9_node_41 rfl ?_
      refine aw_icmp_ne 49 dX9_node_42 (by decide) (fun c3 => ?_) (fun c3 => ?_)
      · rw [if_neg c3] at hf
        refine aw_iconst (0 : Int32) dX9_node_49 (by decide) ?_
        refine aw_lv [0, 1, 3] rfl ?_
        exact wkX9_node_50 hl _ hk26 _ _ _ _ _ hf
      · rw [if_pos c3] at hf
        refine aw_iconst (1 : Int32) dX9_node_45 (by decide) ?_
        refine aw_goto 50 dX9_node_46 (by decide) ?_
        refine aw_lv [0, 1, 3] rfl ?_
        exact wkX9_node_50 hl _ hk26 _ _ _ _ _ hf
def fX9_node_14 (S : MS) (a1 : Int32) (s1 : Int32) : Option (Int32 × MS) :=
  (fX9_fails S s1).bind fun q1 => (if q1.1 = false then fX9_node_26 FU q1.2 a1 (0 : Int32) (0 : Int32) else some ((0 : Int32), q1.2))
set_option maxHeartbeats 4000000 in
set_option maxRecDepth 100000 in
theorem wkX9_node_14 {l : Launch} {g : xG} {x0 : xV} {mo sz : Nat} (hl : l.stackTraces = false) {r : Int32 × MS} (S : MS) (a1 : Int32) (s1 : Int32) (hf : fX9_node_14 S a1 s1 = some r) : AW MX9_node rmX9_node l g x0 (.inl (some (.int r.1))) (moE g mo sz r.2) 0 0 (moE g mo sz S) 14 [(0, .ref mo), (1, .int a1)] [.int s1, .ref mo] := by
  rw [fX9_node_14] at hf
  obtain ⟨q1, hq1, hf⟩ := xbind hf
  refine aw_callV 7 (some mo) [.int s1] 1 rfl mo_ob rfl rfl (ctX9_fails hl _ _ hq1) ⟨wl5 (i := 16) rfl rfl, ciX9_fails⟩ (wl5 (i := 18) rfl rfl) (wl0 (i := 19) rfl rfl) dX9_node_14 rfl rfl (Nat.le_of_ble_eq_true rfl) ⟨Nat.le_of_ble_eq_true rfl, Nat.le_of_ble_eq_true rfl⟩ ⟨Nat.le_of_ble_eq_true rfl, Nat.le_of_ble_eq_true rfl⟩ ?_
  refine aw_ifb_eq 22 dX9_node_17 (by decide) (fun c2 => ?_) (fun c2 => ?_)
  · rw [if_pos c2] at hf
    refine aw_iconst (0 : Int32) dX9_node_22 (by decide) ?_
    refine aw_istore_n [(2, .int (0 : Int32)), (0, .ref mo), (1, .int a1)] dX9_node_23 rfl (by decide) rfl ?_
    refine aw_iconst (0 : Int32) dX9_node_24 (by decide) ?_
    refine aw_istore_n [(3, .int (0 : Int32)), (2, .int (0 : Int32)), (0, .ref mo), (1, .int a1)] dX9_node_25 rfl (by decide) rfl ?_
    refine aw_lv [2, 3, 1, 0] rfl ?_
    exact wkX9_node_26 hl _ _ _ _ _ hf
  · rw [if_neg c2] at hf
    refine aw_iconst (0 : Int32) dX9_node_20 (by decide) ?_
    cases hf
    exact aw_iret dX9_node_21 rfl rfl rfl ⟨Nat.le_of_ble_eq_true rfl, Nat.le_of_ble_eq_true rfl⟩
def fX9_node (S : MS) (a1 : Int32) : Option (Int32 × MS) :=
  (fX9_isNode S a1).bind fun q1 => (if q1 = false then fX9_node_14 S a1 (1 : Int32) else fX9_node_14 S a1 (0 : Int32))
set_option maxHeartbeats 4000000 in
set_option maxRecDepth 100000 in
theorem ctX9_node {l : Launch} {g : xG} {mo sz : Nat} (hl : l.stackTraces = false) {r : Int32 × MS} (S : MS) (a1 : Int32) (hf : fX9_node S a1 = some r) : CT yX9_node MX9_node rmX9_node l g [.ref mo, .int a1] (moE g mo sz S) (.inl (some (.int r.1))) (moE g mo sz r.2) := by
  rw [fX9_node] at hf
  refine CT.of (lv0 := [(0, .ref mo), (1, .int a1)]) (by decide +kernel) rfl rfl (Nat.le_of_ble_eq_true rfl) rfl hl ?_
  refine aw_aload_n 0 dX9_node_0 rfl ?_
  refine aw_aload_n 0 dX9_node_1 rfl ?_
  refine aw_iload_n 1 dX9_node_2 rfl ?_
  obtain ⟨q1, hq1, hf⟩ := xbind hf
  refine aw_callV 7 (some mo) [.int a1] 1 rfl mo_ob rfl rfl (ctX9_isNode hl _ _ hq1) ⟨wl6 (i := 14) rfl rfl, ciX9_isNode⟩ (wl6 (i := 16) rfl rfl) (wl0 (i := 51) rfl rfl) dX9_node_3 rfl rfl (Nat.le_of_ble_eq_true rfl) ⟨Nat.le_of_ble_eq_true rfl, Nat.le_of_ble_eq_true rfl⟩ ⟨Nat.le_of_ble_eq_true rfl, Nat.le_of_ble_eq_true rfl⟩ ?_
  refine aw_ifb_eq 13 dX9_node_6 (by decide) (fun c2 => ?_) (fun c2 => ?_)
  · rw [if_pos c2] at hf
    refine aw_iconst (1 : Int32) dX9_node_13 (by decide) ?_
    refine aw_lv [0, 1] rfl ?_
    exact wkX9_node_14 hl _ _ _ hf
  · rw [if_neg c2] at hf
    refine aw_iconst (0 : Int32) dX9_node_9 (by decide) ?_
    refine aw_goto 14 dX9_node_10 (by decide) ?_
    refine aw_lv [0, 1] rfl ?_
    exact wkX9_node_14 hl _ _ _ hf
abbrev MX9_runsOut : xM := (RX9, cX9_runsOut, 6, (some .boolean), "runsOut")
abbrev rmX9_runsOut : Room := { frames := 1, cells := 0, slots := 0, locals := 23 }
theorem ciX9_runsOut : Cond.code yX9_runsOut cX9_runsOut 6 (some .boolean) ∈ wt ∧ Cond.initialized yX9_runsOut.cls ∈ wt ∧ (yX9_runsOut.cls ≠ "java/lang/invoke/MethodHandle" ∧ yX9_runsOut.cls ≠ "java/lang/invoke/VarHandle" ∧ (parseMethodDescriptor yX9_runsOut.desc).map (fun d => d.parameters.length) = some 2) := ⟨wl5 (i := 111) rfl rfl, wl1 (i := 4) rfl rfl, by decide +kernel, by decide +kernel, by decide +kernel⟩
def fX9_runsOut_97 (S : MS) (a3 : Int32) (s1 : Int32) (s2 : Int32) : Option (Bool × MS) :=
  (if xin s1 32 = true then (if xin a3 32 = true then (if (m_I (ms_I S 15 s1.toNatClampNeg s2) 15 a3.toNatClampNeg) = 0 then some (true, (ms_I S 15 s1.toNatClampNeg s2)) else some (false, (ms_I S 15 s1.toNatClampNeg s2))) else none) else none)
set_option maxHeartbeats 4000000 in
set_option maxRecDepth 100000 in
theorem wkX9_runsOut_97 {l : Launch} {g : xG} {x0 : xV} {mo sz : Nat} (hl : l.stackTraces = false) {r : Bool × MS} (S : MS) (a3 : Int32) (s1 : Int32) (s2 : Int32) (hf : fX9_runsOut_97 S a3 s1 s2 = some r) : AW MX9_runsOut rmX9_runsOut l g x0 (.inl (some (.int (bi r.1)))) (moE g mo sz r.2) 0 0 (moE g mo sz S) 97 [(0, .ref mo), (3, .int a3)] [.int s2, .int s1, .ref (mo + 1 + 15)] := by
  rw [fX9_runsOut_97] at hf
  obtain ⟨hi1, hf⟩ := xifn hf
  refine mo_iast 15 32 rfl (xin_v hi1) dX9_runsOut_97 ?_
  refine aw_aload_n 0 dX9_runsOut_98 rfl ?_
  refine mo_getR 17 15 rfl (by decide) (wl4 (i := 115) rfl rfl) dX9_runsOut_99 ?_
  refine aw_iload_n 1 dX9_runsOut_102 rfl ?_
  obtain ⟨hi2, hf⟩ := xifn hf
  refine mo_iald 15 32 rfl (xin_v hi2) dX9_runsOut_103 ?_
  refine aw_if_ne 111 dX9_runsOut_104 (by decide) (fun c3 => ?_) (fun c3 => ?_)
  · rw [if_neg c3] at hf
    refine aw_iconst (0 : Int32) dX9_runsOut_111 (by decide) ?_
    cases hf
    exact aw_zret dX9_runsOut_112 rfl rfl rfl rfl ⟨Nat.le_of_ble_eq_true rfl, Nat.le_of_ble_eq_true rfl⟩
  · rw [if_pos c3] at hf
    refine aw_iconst (1 : Int32) dX9_runsOut_107 (by decide) ?_
    refine aw_goto 112 dX9_runsOut_108 (by decide) ?_
    cases hf
    exact aw_zret dX9_runsOut_112 rfl rfl rfl rfl ⟨Nat.le_of_ble_eq_true rfl, Nat.le_of_ble_eq_true rfl⟩
def fX9_runsOut (S : MS) (a1 : Int32) (a2 : Int32) : Option (Bool × MS) :=
  (if xin a1 16 = true then (fX9_sideOf S a1 (m_I S 12 a1.toNatClampNeg)).bind fun q2 => (if xin (((2 : Int32) * a1) + q2) 32 = true then (if (m_I S 14 (((2 : Int32) * a1) + q2).toNatClampNeg) < a2 then (if (m_I S 16 a1.toNatClampNeg) = 0 then none else (if (m_I (ms_I S 14 (((2 : Int32) * a1) + q2).toNatClampNeg (0 : Int32)) 15 (((2 : Int32) * a1) + q2).toNatClampNeg) ≤ (((a2 - (m_I S 14 (((2 : Int32) * a1) + q2).toNatClampNeg)) - (1 : Int32)) / (m_I S 16 a1.toNatClampNeg)) then fX9_runsOut_97 (ms_I S 14 (((2 : Int32) * a1) + q2).toNatClampNeg (0 : Int32)) (((2 : Int32) * a1) + q2) (((2 : Int32) * a1) + q2) (0 : Int32) else fX9_runsOut_97 (ms_I S 14 (((2 : Int32) * a1) + q2).toNatClampNeg (0 : Int32)) (((2 : Int32) * a1) + q2) (((2 : Int32) * a1) + q2) ((m_I (ms_I S 14 (((2 : Int32) * a1) + q2).toNatClampNeg (0 : Int32)) 15 (((2 : Int32) * a1) + q2).toNatClampNeg) - (((a2 - (m_I S 14 (((2 : Int32) * a1) + q2).toNatClampNeg)) - (1 : Int32)) / (m_I S 16 a1.toNatClampNeg))))) else (some (ms_I S 14 (((2 : Int32) * a1) + q2).toNatClampNeg ((m_I S 14 (((2 : Int32) * a1) + q2).toNatClampNeg) - a2))).bind fun W7 => some (false, W7)) else none) else none)
set_option maxHeartbeats 4000000 in
set_option maxRecDepth 100000 in
theorem ctX9_runsOut {l : Launch} {g : xG} {mo sz : Nat} (hl : l.stackTraces = false) {r : Bool × MS} (S : MS) (a1 : Int32) (a2 : Int32) (hf : fX9_runsOut S a1 a2 = some r) : CT yX9_runsOut MX9_runsOut rmX9_runsOut l g [.ref mo, .int a1, .int a2] (moE g mo sz S) (.inl (some (.int (bi r.1)))) (moE g mo sz r.2) := by
  rw [fX9_runsOut] at hf
  refine CT.of (lv0 := [(0, .ref mo), (1, .int a1), (2, .int a2)]) (by decide +kernel) rfl rfl (Nat.le_of_ble_eq_true rfl) rfl hl ?_
  refine aw_iconst (2 : Int32) dX9_runsOut_0 (by decide) ?_
  refine aw_iload_n 1 dX9_runsOut_1 rfl ?_
  refine aw_imul dX9_runsOut_2 ?_
  refine aw_aload_n 0 dX9_runsOut_3 rfl ?_
  refine aw_iload_n 1 dX9_runsOut_4 rfl ?_
  refine aw_aload_n 0 dX9_runsOut_5 rfl ?_
  refine mo_getR 14 12 rfl (by decide) (wl4 (i := 112) rfl rfl) dX9_runsOut_6 ?_
  refine aw_iload_n 1 dX9_runsOut_9 rfl ?_
  obtain ⟨hi1, hf⟩ := xifn hf
  refine mo_iald 12 16 rfl (xin_v hi1) dX9_runsOut_10 ?_
  obtain ⟨q2, hq2, hf⟩ := xbind hf
  refine aw_callV 7 (some mo) [.int a1, .int (m_I S 12 a1.toNatClampNeg)] 2 rfl mo_ob rfl rfl (ctX9_sideOf hl _ _ _ hq2) ⟨wl5 (i := 77) rfl rfl, ciX9_sideOf⟩ (wl5 (i := 79) rfl rfl) (wl0 (i := 29) rfl rfl) dX9_runsOut_11 rfl rfl (Nat.le_of_ble_eq_true rfl) ⟨Nat.le_of_ble_eq_true rfl, Nat.le_of_ble_eq_true rfl⟩ ⟨Nat.le_of_ble_eq_true rfl, Nat.le_of_ble_eq_true rfl⟩ ?_
  refine aw_iadd dX9_runsOut_14 ?_
  refine aw_istore_n [(3, .int (((2 : Int32) * a1) + q2)), (0, .ref mo), (1, .int a1), (2, .int a2)] dX9_runsOut_15 rfl (by decide) rfl ?_
  refine aw_iload_n 3 dX9_runsOut_16 rfl ?_
  refine aw_aload_n 1 dX9_runsOut_17 rfl ?_
  refine mo_getR 16 14 rfl (by decide) (wl4 (i := 114) rfl rfl) dX9_runsOut_18 ?_
  refine aw_iload_n 0 dX9_runsOut_21 rfl ?_
  obtain ⟨hi3, hf⟩ := xifn hf
  refine mo_iald 14 32 rfl (xin_v hi3) dX9_runsOut_22 ?_
  refine aw_icmp_gt 38 dX9_runsOut_23 (by decide) (fun c4 => ?_) (fun c4 => ?_)
  · rw [if_pos c4] at hf
    refine aw_iload_n 3 dX9_runsOut_38 rfl ?_
    refine aw_aload_n 1 dX9_runsOut_39 rfl ?_
    refine mo_getR 16 14 rfl (by decide) (wl4 (i := 114) rfl rfl) dX9_runsOut_40 ?_
    refine aw_iload_n 0 dX9_runsOut_43 rfl ?_
    refine mo_iald 14 32 rfl (xin_v hi3) dX9_runsOut_44 ?_
    refine aw_isub dX9_runsOut_45 ?_
    refine aw_istore [(4, .int (a2 - (m_I S 14 (((2 : Int32) * a1) + q2).toNatClampNeg))), (3, .int (((2 : Int32) * a1) + q2)), (0, .ref mo), (1, .int a1), (2, .int a2)] dX9_runsOut_46 (by decide) rfl ?_
    refine aw_iload 0 dX9_runsOut_48 rfl ?_
    refine aw_iconst (1 : Int32) dX9_runsOut_50 (by decide) ?_
    refine aw_isub dX9_runsOut_51 ?_
    refine aw_aload_n 2 dX9_runsOut_52 rfl ?_
    refine mo_getR 18 16 rfl (by decide) (wl4 (i := 116) rfl rfl) dX9_runsOut_53 ?_
    refine aw_iload_n 3 dX9_runsOut_56 rfl ?_
    refine mo_iald 16 16 rfl (xin_v hi1) dX9_runsOut_57 ?_
    obtain ⟨hz5, hf⟩ := xifz hf
    refine aw_idiv dX9_runsOut_58 hz5 ?_
    refine aw_istore [(5, .int (((a2 - (m_I S 14 (((2 : Int32) * a1) + q2).toNatClampNeg)) - (1 : Int32)) / (m_I S 16 a1.toNatClampNeg))), (4, .int (a2 - (m_I S 14 (((2 : Int32) * a1) + q2).toNatClampNeg))), (3, .int (((2 : Int32) * a1) + q2)), (0, .ref mo), (1, .int a1), (2, .int a2)] dX9_runsOut_59 (by decide) rfl ?_
    refine aw_aload_n 3 dX9_runsOut_61 rfl ?_
    refine mo_getR 16 14 rfl (by decide) (wl4 (i := 114) rfl rfl) dX9_runsOut_62 ?_
    refine aw_iload_n 2 dX9_runsOut_65 rfl ?_
    refine aw_iconst (0 : Int32) dX9_runsOut_66 (by decide) ?_
    refine mo_iast 14 32 rfl (xin_v hi3) dX9_runsOut_67 ?_
    refine aw_aload_n 3 dX9_runsOut_68 rfl ?_
    refine mo_getR 17 15 rfl (by decide) (wl4 (i := 115) rfl rfl) dX9_runsOut_69 ?_
    refine aw_iload_n 2 dX9_runsOut_72 rfl ?_
    refine aw_iload 0 dX9_runsOut_73 rfl ?_
    refine aw_aload_n 3 dX9_runsOut_75 rfl ?_
    refine mo_getR 17 15 rfl (by decide) (wl4 (i := 115) rfl rfl) dX9_runsOut_76 ?_
    refine aw_iload_n 2 dX9_runsOut_79 rfl ?_
    refine mo_iald 15 32 rfl (xin_v hi3) dX9_runsOut_80 ?_
    refine aw_icmp_ge 96 dX9_runsOut_81 (by decide) (fun c6 => ?_) (fun c6 => ?_)
    · rw [if_pos c6] at hf
      refine aw_iconst (0 : Int32) dX9_runsOut_96 (by decide) ?_
      refine aw_lv [3, 2] rfl ?_
      exact wkX9_runsOut_97 hl _ _ _ _ hf
    · rw [if_neg c6] at hf
      refine aw_aload_n 3 dX9_runsOut_84 rfl ?_
      refine mo_getR 17 15 rfl (by decide) (wl4 (i := 115) rfl rfl) dX9_runsOut_85 ?_
      refine aw_iload_n 2 dX9_runsOut_88 rfl ?_
      refine mo_iald 15 32 rfl (xin_v hi3) dX9_runsOut_89 ?_
      refine aw_iload 0 dX9_runsOut_90 rfl ?_
      refine aw_isub dX9_runsOut_92 ?_
      refine aw_goto 97 dX9_runsOut_93 (by decide) ?_
      refine aw_lv [3, 2] rfl ?_
      exact wkX9_runsOut_97 hl _ _ _ _ hf
  · rw [if_neg c4] at hf
    refine aw_aload_n 1 dX9_runsOut_26 rfl ?_
    refine mo_getR 16 14 rfl (by decide) (wl4 (i := 114) rfl rfl) dX9_runsOut_27 ?_
    refine aw_iload_n 0 dX9_runsOut_30 rfl ?_
    refine aw_dup2 dX9_runsOut_31 rfl rfl ?_
    refine mo_iald 14 32 rfl (xin_v hi3) dX9_runsOut_32 ?_
    refine aw_iload_n 3 dX9_runsOut_33 rfl ?_
    refine aw_isub dX9_runsOut_34 ?_
    obtain ⟨W7, hW7, hf⟩ := xlet hf
    refine mo_iast 14 32 rfl (xin_v hi3) dX9_runsOut_35 ?_
    rw [hW7]
    refine aw_iconst (0 : Int32) dX9_runsOut_36 (by decide) ?_
    cases hf
    exact aw_zret dX9_runsOut_37 rfl rfl rfl rfl ⟨Nat.le_of_ble_eq_true rfl, Nat.le_of_ble_eq_true rfl⟩
abbrev MX9_scoreOf : xM := (RX9, cX9_scoreOf, 15, (some .int), "scoreOf")
abbrev rmX9_scoreOf : Room := { frames := 2, cells := 0, slots := 0, locals := 48 }
theorem ciX9_scoreOf : Cond.code yX9_scoreOf cX9_scoreOf 15 (some .int) ∈ wt ∧ Cond.initialized yX9_scoreOf.cls ∈ wt ∧ (yX9_scoreOf.cls ≠ "java/lang/invoke/MethodHandle" ∧ yX9_scoreOf.cls ≠ "java/lang/invoke/VarHandle" ∧ (parseMethodDescriptor yX9_scoreOf.desc).map (fun d => d.parameters.length) = some 1) := ⟨wl5 (i := 131) rfl rfl, wl1 (i := 4) rfl rfl, by decide +kernel, by decide +kernel, by decide +kernel⟩
def fX9_scoreOf_181 (k71 : MS → Int64 → Int64 → Int64 → Int32 → Int64 → Option (Int32)) (S : MS) (a2 : Int64) (a4 : Int64) (a6 : Int64) (a9 : Int64) (s0 : Int32) (s1 : Int32) : Option (Int32) :=
  k71 S a2 a4 a6 (s0 + s1) a9
set_option maxHeartbeats 4000000 in
set_option maxRecDepth 100000 in
theorem wkX9_scoreOf_181 {l : Launch} {g : xG} {x0 : xV} {mo sz : Nat} (hl : l.stackTraces = false) {r : Int32} (k71 : MS → Int64 → Int64 → Int64 → Int32 → Int64 → Option (Int32)) (hk71 : ∀ (S : MS) (a2 : Int64) (a4 : Int64) (a6 : Int64) (a8 : Int32) (a9 : Int64), k71 S a2 a4 a6 a8 a9 = some r → AW MX9_scoreOf rmX9_scoreOf l g x0 (.inl (some (.int r))) (moE g mo sz S) 0 0 (moE g mo sz S) 71 [(2, .long a2), (4, .long a4), (6, .long a6), (8, .int a8), (9, .long a9)] []) (S : MS) (a2 : Int64) (a4 : Int64) (a6 : Int64) (a9 : Int64) (s0 : Int32) (s1 : Int32) (hf : fX9_scoreOf_181 k71 S a2 a4 a6 a9 s0 s1 = some r) : AW MX9_scoreOf rmX9_scoreOf l g x0 (.inl (some (.int r))) (moE g mo sz S) 0 0 (moE g mo sz S) 181 [(2, .long a2), (4, .long a4), (6, .long a6), (9, .long a9)] [.int s1, .int s0] := by
  rw [fX9_scoreOf_181] at hf
  refine aw_iadd dX9_scoreOf_181 ?_
  refine aw_istore [(8, .int (s0 + s1)), (2, .long a2), (4, .long a4), (6, .long a6), (9, .long a9)] dX9_scoreOf_182 (by decide) rfl ?_
  refine aw_goto 71 dX9_scoreOf_184 (by decide) ?_
  refine aw_lv [1, 2, 3, 0, 4] rfl ?_
  exact hk71 _ _ _ _ _ _ hf
def fX9_scoreOf_161 (k71 : MS → Int64 → Int64 → Int64 → Int32 → Int64 → Option (Int32)) (S : MS) (a2 : Int64) (a4 : Int64) (a6 : Int64) (a9 : Int64) (a11 : Int64) (a13 : Int32) (a14 : Int32) (s0 : Int32) : Option (Int32) :=
  (if a14 = 0 then fX9_scoreOf_181 k71 S a2 a4 a6 a9 s0 (0 : Int32) else (if a13 = 0 then (fX9_bits a11).bind fun q3 => fX9_scoreOf_181 k71 S a2 a4 a6 a9 s0 (-q3) else fX9_scoreOf_181 k71 S a2 a4 a6 a9 s0 (0 : Int32)))
set_option maxHeartbeats 4000000 in
set_option maxRecDepth 100000 in
theorem wkX9_scoreOf_161 {l : Launch} {g : xG} {x0 : xV} {mo sz : Nat} (hl : l.stackTraces = false) {r : Int32} (k71 : MS → Int64 → Int64 → Int64 → Int32 → Int64 → Option (Int32)) (hk71 : ∀ (S : MS) (a2 : Int64) (a4 : Int64) (a6 : Int64) (a8 : Int32) (a9 : Int64), k71 S a2 a4 a6 a8 a9 = some r → AW MX9_scoreOf rmX9_scoreOf l g x0 (.inl (some (.int r))) (moE g mo sz S) 0 0 (moE g mo sz S) 71 [(2, .long a2), (4, .long a4), (6, .long a6), (8, .int a8), (9, .long a9)] []) (S : MS) (a2 : Int64) (a4 : Int64) (a6 : Int64) (a9 : Int64) (a11 : Int64) (a13 : Int32) (a14 : Int32) (s0 : Int32) (hf : fX9_scoreOf_161 k71 S a2 a4 a6 a9 a11 a13 a14 s0 = some r) : AW MX9_scoreOf rmX9_scoreOf l g x0 (.inl (some (.int r))) (moE g mo sz S) 0 0 (moE g mo sz S) 161 [(2, .long a2), (4, .long a4), (6, .long a6), (9, .long a9), (11, .long a11), (13, .int a13), (14, .int a14)] [.int s0] := by
  rw [fX9_scoreOf_161] at hf
  refine aw_iload 6 dX9_scoreOf_161 rfl ?_
  refine aw_if_eq 180 dX9_scoreOf_163 (by decide) (fun c1 => ?_) (fun c1 => ?_)
  · rw [if_pos c1] at hf
    refine aw_iconst (0 : Int32) dX9_scoreOf_180 (by decide) ?_
    refine aw_lv [0, 1, 2, 3] rfl ?_
    exact wkX9_scoreOf_181 hl _ hk71 _ _ _ _ _ _ _ hf
  · rw [if_neg c1] at hf
    refine aw_iload 5 dX9_scoreOf_166 rfl ?_
    refine aw_if_ne 180 dX9_scoreOf_168 (by decide) (fun c2 => ?_) (fun c2 => ?_)
    · rw [if_neg c2] at hf
      refine aw_iconst (0 : Int32) dX9_scoreOf_180 (by decide) ?_
      refine aw_lv [0, 1, 2, 3] rfl ?_
      exact wkX9_scoreOf_181 hl _ hk71 _ _ _ _ _ _ _ hf
    · rw [if_pos c2] at hf
      refine aw_lload 4 dX9_scoreOf_171 rfl ?_
      obtain ⟨q3, hq3, hf⟩ := xbind hf
      refine aw_callS [.long a11] 1 (ctX9_bits hl _ hq3) ⟨wl5 (i := 101) rfl rfl, ciX9_bits⟩ (wl5 (i := 102) rfl rfl) dX9_scoreOf_173 rfl rfl (Nat.le_of_ble_eq_true rfl) ⟨Nat.le_of_ble_eq_true rfl, Nat.le_of_ble_eq_true rfl⟩ ⟨Nat.le_of_ble_eq_true rfl, Nat.le_of_ble_eq_true rfl⟩ ?_
      refine aw_ineg dX9_scoreOf_176 ?_
      refine aw_goto 181 dX9_scoreOf_177 (by decide) ?_
      refine aw_lv [0, 1, 2, 3] rfl ?_
      exact wkX9_scoreOf_181 hl _ hk71 _ _ _ _ _ _ _ hf
def fX9_scoreOf_139 (k71 : MS → Int64 → Int64 → Int64 → Int32 → Int64 → Option (Int32)) (S : MS) (a2 : Int64) (a4 : Int64) (a6 : Int64) (a8 : Int32) (a9 : Int64) (a11 : Int64) (a13 : Int32) (s0 : Int32) : Option (Int32) :=
  (if a13 = 0 then fX9_scoreOf_161 k71 S a2 a4 a6 a9 a11 a13 s0 a8 else (if s0 = 0 then (fX9_bits a11).bind fun q3 => fX9_scoreOf_181 k71 S a2 a4 a6 a9 a8 q3 else fX9_scoreOf_161 k71 S a2 a4 a6 a9 a11 a13 s0 a8))
set_option maxHeartbeats 4000000 in
set_option maxRecDepth 100000 in
theorem wkX9_scoreOf_139 {l : Launch} {g : xG} {x0 : xV} {mo sz : Nat} (hl : l.stackTraces = false) {r : Int32} (k71 : MS → Int64 → Int64 → Int64 → Int32 → Int64 → Option (Int32)) (hk71 : ∀ (S : MS) (a2 : Int64) (a4 : Int64) (a6 : Int64) (a8 : Int32) (a9 : Int64), k71 S a2 a4 a6 a8 a9 = some r → AW MX9_scoreOf rmX9_scoreOf l g x0 (.inl (some (.int r))) (moE g mo sz S) 0 0 (moE g mo sz S) 71 [(2, .long a2), (4, .long a4), (6, .long a6), (8, .int a8), (9, .long a9)] []) (S : MS) (a2 : Int64) (a4 : Int64) (a6 : Int64) (a8 : Int32) (a9 : Int64) (a11 : Int64) (a13 : Int32) (s0 : Int32) (hf : fX9_scoreOf_139 k71 S a2 a4 a6 a8 a9 a11 a13 s0 = some r) : AW MX9_scoreOf rmX9_scoreOf l g x0 (.inl (some (.int r))) (moE g mo sz S) 0 0 (moE g mo sz S) 139 [(2, .long a2), (4, .long a4), (6, .long a6), (8, .int a8), (9, .long a9), (11, .long a11), (13, .int a13)] [.int s0] := by
  rw [fX9_scoreOf_139] at hf
  refine aw_istore [(14, .int s0), (2, .long a2), (4, .long a4), (6, .long a6), (8, .int a8), (9, .long a9), (11, .long a11), (13, .int a13)] dX9_scoreOf_139 (by decide) rfl ?_
  refine aw_iload 4 dX9_scoreOf_141 rfl ?_
  refine aw_iload 7 dX9_scoreOf_143 rfl ?_
  refine aw_if_eq 161 dX9_scoreOf_145 (by decide) (fun c1 => ?_) (fun c1 => ?_)
  · rw [if_pos c1] at hf
    refine aw_lv [1, 2, 3, 5, 6, 7, 0] rfl ?_
    exact wkX9_scoreOf_161 hl _ hk71 _ _ _ _ _ _ _ _ _ hf
  · rw [if_neg c1] at hf
    refine aw_iload 0 dX9_scoreOf_148 rfl ?_
    refine aw_if_ne 161 dX9_scoreOf_150 (by decide) (fun c2 => ?_) (fun c2 => ?_)
    · rw [if_neg c2] at hf
      refine aw_lv [1, 2, 3, 5, 6, 7, 0] rfl ?_
      exact wkX9_scoreOf_161 hl _ hk71 _ _ _ _ _ _ _ _ _ hf
    · rw [if_pos c2] at hf
      refine aw_lload 6 dX9_scoreOf_153 rfl ?_
      obtain ⟨q3, hq3, hf⟩ := xbind hf
      refine aw_callS [.long a11] 1 (ctX9_bits hl _ hq3) ⟨wl5 (i := 101) rfl rfl, ciX9_bits⟩ (wl5 (i := 102) rfl rfl) dX9_scoreOf_155 rfl rfl (Nat.le_of_ble_eq_true rfl) ⟨Nat.le_of_ble_eq_true rfl, Nat.le_of_ble_eq_true rfl⟩ ⟨Nat.le_of_ble_eq_true rfl, Nat.le_of_ble_eq_true rfl⟩ ?_
      refine aw_goto 181 dX9_scoreOf_158 (by decide) ?_
      refine aw_lv [1, 2, 3, 5] rfl ?_
      exact wkX9_scoreOf_181 hl _ hk71 _ _ _ _ _ _ _ hf
def fX9_scoreOf_119 (k71 : MS → Int64 → Int64 → Int64 → Int32 → Int64 → Option (Int32)) (S : MS) (a2 : Int64) (a4 : Int64) (a6 : Int64) (a8 : Int32) (a9 : Int64) (a11 : Int64) (s0 : Int32) : Option (Int32) :=
  (fX9_around a11).bind fun q1 => (if (q1 &&& a4) = (0 : Int64) then fX9_scoreOf_139 k71 S a2 a4 a6 a8 a9 a11 s0 (0 : Int32) else fX9_scoreOf_139 k71 S a2 a4 a6 a8 a9 a11 s0 (1 : Int32))
set_option maxHeartbeats 4000000 in
set_option maxRecDepth 100000 in
theorem wkX9_scoreOf_119 {l : Launch} {g : xG} {x0 : xV} {mo sz : Nat} (hl : l.stackTraces = false) {r : Int32} (k71 : MS → Int64 → Int64 → Int64 → Int32 → Int64 → Option (Int32)) (hk71 : ∀ (S : MS) (a2 : Int64) (a4 : Int64) (a6 : Int64) (a8 : Int32) (a9 : Int64), k71 S a2 a4 a6 a8 a9 = some r → AW MX9_scoreOf rmX9_scoreOf l g x0 (.inl (some (.int r))) (moE g mo sz S) 0 0 (moE g mo sz S) 71 [(2, .long a2), (4, .long a4), (6, .long a6), (8, .int a8), (9, .long a9)] []) (S : MS) (a2 : Int64) (a4 : Int64) (a6 : Int64) (a8 : Int32) (a9 : Int64) (a11 : Int64) (s0 : Int32) (hf : fX9_scoreOf_119 k71 S a2 a4 a6 a8 a9 a11 s0 = some r) : AW MX9_scoreOf rmX9_scoreOf l g x0 (.inl (some (.int r))) (moE g mo sz S) 0 0 (moE g mo sz S) 119 [(2, .long a2), (4, .long a4), (6, .long a6), (8, .int a8), (9, .long a9), (11, .long a11)] [.int s0] := by
  rw [fX9_scoreOf_119] at hf
  refine aw_istore [(13, .int s0), (2, .long a2), (4, .long a4), (6, .long a6), (8, .int a8), (9, .long a9), (11, .long a11)] dX9_scoreOf_119 (by decide) rfl ?_
  refine aw_lload 6 dX9_scoreOf_121 rfl ?_
  obtain ⟨q1, hq1, hf⟩ := xbind hf
  refine aw_callS [.long a11] 1 (ctX9_around hl _ hq1) ⟨wl5 (i := 91) rfl rfl, ciX9_around⟩ (wl5 (i := 92) rfl rfl) dX9_scoreOf_123 rfl rfl (Nat.le_of_ble_eq_true rfl) ⟨Nat.le_of_ble_eq_true rfl, Nat.le_of_ble_eq_true rfl⟩ ⟨Nat.le_of_ble_eq_true rfl, Nat.le_of_ble_eq_true rfl⟩ ?_
  refine aw_lload 2 dX9_scoreOf_126 rfl ?_
  refine aw_land dX9_scoreOf_128 ?_
  refine aw_lconst (0 : Int64) dX9_scoreOf_129 (by decide) ?_
  refine aw_lcmp_eq 138 dX9_scoreOf_130 dX9_scoreOf_131 (by decide) (fun c2 => ?_) (fun c2 => ?_)
  · rw [if_pos c2] at hf
    refine aw_iconst (0 : Int32) dX9_scoreOf_138 (by decide) ?_
    refine aw_lv [1, 2, 3, 4, 5, 6, 0] rfl ?_
    exact wkX9_scoreOf_139 hl _ hk71 _ _ _ _ _ _ _ _ _ hf
  · rw [if_neg c2] at hf
    refine aw_iconst (1 : Int32) dX9_scoreOf_134 (by decide) ?_
    refine aw_goto 139 dX9_scoreOf_135 (by decide) ?_
    refine aw_lv [1, 2, 3, 4, 5, 6, 0] rfl ?_
    exact wkX9_scoreOf_139 hl _ hk71 _ _ _ _ _ _ _ _ _ hf
def fX9_scoreOf_71 : Nat → MS → Int64 → Int64 → Int64 → Int32 → Int64 → Option (Int32)
  | 0, _, _, _, _, _, _ => none
  | n + 1, S, a2, a4, a6, a8, a9 =>
    (if a9 = (0 : Int64) then some a8 else (fX9_flood (a9 &&& (-a9)) a6).bind fun q2 => (fX9_around q2).bind fun q3 => (if (q3 &&& a2) = (0 : Int64) then fX9_scoreOf_119 (fX9_scoreOf_71 n) S a2 a4 a6 a8 (a9 &&& (q2 ^^^ (-1 : Int64))) q2 (0 : Int32) else fX9_scoreOf_119 (fX9_scoreOf_71 n) S a2 a4 a6 a8 (a9 &&& (q2 ^^^ (-1 : Int64))) q2 (1 : Int32)))
set_option maxHeartbeats 4000000 in
set_option maxRecDepth 100000 in
theorem wkX9_scoreOf_71 {l : Launch} {g : xG} {x0 : xV} {mo sz : Nat} (hl : l.stackTraces = false) {r : Int32} : ∀ (n : Nat) (S : MS) (a2 : Int64) (a4 : Int64) (a6 : Int64) (a8 : Int32) (a9 : Int64), fX9_scoreOf_71 n S a2 a4 a6 a8 a9 = some r → AW MX9_scoreOf rmX9_scoreOf l g x0 (.inl (some (.int r))) (moE g mo sz S) 0 0 (moE g mo sz S) 71 [(2, .long a2), (4, .long a4), (6, .long a6), (8, .int a8), (9, .long a9)] [] := by
  intro n
  induction n with
  | zero => intro S a2 a4 a6 a8 a9 hf; exact absurd hf (by simp [fX9_scoreOf_71])
  | succ n hk71 =>
    intro S a2 a4 a6 a8 a9 hf
    rw [fX9_scoreOf_71] at hf
    refine aw_lload 4 dX9_scoreOf_71 rfl ?_
    refine aw_lconst (0 : Int64) dX9_scoreOf_73 (by decide) ?_
    refine aw_lcmp_eq 187 dX9_scoreOf_74 dX9_scoreOf_75 (by decide) (fun c1 => ?_) (fun c1 => ?_)
    · rw [if_pos c1] at hf
      refine aw_iload 3 dX9_scoreOf_187 rfl ?_
      cases hf
      exact aw_iret dX9_scoreOf_189 rfl rfl rfl ⟨Nat.le_of_ble_eq_true rfl, Nat.le_of_ble_eq_true rfl⟩
    · rw [if_neg c1] at hf
      refine aw_lload 4 dX9_scoreOf_78 rfl ?_
      refine aw_lload 4 dX9_scoreOf_80 rfl ?_
      refine aw_lneg dX9_scoreOf_82 ?_
      refine aw_land dX9_scoreOf_83 ?_
      refine aw_lload 2 dX9_scoreOf_84 rfl ?_
      obtain ⟨q2, hq2, hf⟩ := xbind hf
      refine aw_callS [.long (a9 &&& (-a9)), .long a6] 2 (ctX9_flood hl _ _ hq2) ⟨wl5 (i := 88) rfl rfl, ciX9_flood⟩ (wl5 (i := 89) rfl rfl) dX9_scoreOf_86 rfl rfl (Nat.le_of_ble_eq_true rfl) ⟨Nat.le_of_ble_eq_true rfl, Nat.le_of_ble_eq_true rfl⟩ ⟨Nat.le_of_ble_eq_true rfl, Nat.le_of_ble_eq_true rfl⟩ ?_
      refine aw_lstore [(11, .long q2), (2, .long a2), (4, .long a4), (6, .long a6), (8, .int a8), (9, .long a9)] dX9_scoreOf_89 (by decide) rfl ?_
      refine aw_lload 5 dX9_scoreOf_91 rfl ?_
      refine aw_lload 0 dX9_scoreOf_93 rfl ?_
      refine aw_ldc2 (-1 : Int64) rfl (wl5 (i := 97) rfl rfl) dX9_scoreOf_95 ?_
      refine aw_lxor dX9_scoreOf_98 ?_
      refine aw_land dX9_scoreOf_99 ?_
      refine aw_lstore [(9, .long (a9 &&& (q2 ^^^ (-1 : Int64)))), (11, .long q2), (2, .long a2), (4, .long a4), (6, .long a6), (8, .int a8)] dX9_scoreOf_100 (by decide) rfl ?_
      refine aw_lload 1 dX9_scoreOf_102 rfl ?_
      obtain ⟨q3, hq3, hf⟩ := xbind hf
      refine aw_callS [.long q2] 1 (ctX9_around hl _ hq3) ⟨wl5 (i := 91) rfl rfl, ciX9_around⟩ (wl5 (i := 92) rfl rfl) dX9_scoreOf_104 rfl rfl (Nat.le_of_ble_eq_true rfl) ⟨Nat.le_of_ble_eq_true rfl, Nat.le_of_ble_eq_true rfl⟩ ⟨Nat.le_of_ble_eq_true rfl, Nat.le_of_ble_eq_true rfl⟩ ?_
      refine aw_lload_n 2 dX9_scoreOf_107 rfl ?_
      refine aw_land dX9_scoreOf_108 ?_
      refine aw_lconst (0 : Int64) dX9_scoreOf_109 (by decide) ?_
      refine aw_lcmp_eq 118 dX9_scoreOf_110 dX9_scoreOf_111 (by decide) (fun c4 => ?_) (fun c4 => ?_)
      · rw [if_pos c4] at hf
        refine aw_iconst (0 : Int32) dX9_scoreOf_118 (by decide) ?_
        refine aw_lv [2, 3, 4, 5, 0, 1] rfl ?_
        exact wkX9_scoreOf_119 hl _ hk71 _ _ _ _ _ _ _ _ hf
      · rw [if_neg c4] at hf
        refine aw_iconst (1 : Int32) dX9_scoreOf_114 (by decide) ?_
        refine aw_goto 119 dX9_scoreOf_115 (by decide) ?_
        refine aw_lv [2, 3, 4, 5, 0, 1] rfl ?_
        exact wkX9_scoreOf_119 hl _ hk71 _ _ _ _ _ _ _ _ hf
def fX9_scoreOf_64 (S : MS) (a2 : Int64) (a4 : Int64) (a6 : Int64) (s0 : Int32) (s1 : Int32) : Option (Int32) :=
  fX9_scoreOf_71 FU S a2 a4 a6 (s0 - s1) a6
set_option maxHeartbeats 4000000 in
set_option maxRecDepth 100000 in
theorem wkX9_scoreOf_64 {l : Launch} {g : xG} {x0 : xV} {mo sz : Nat} (hl : l.stackTraces = false) {r : Int32} (S : MS) (a2 : Int64) (a4 : Int64) (a6 : Int64) (s0 : Int32) (s1 : Int32) (hf : fX9_scoreOf_64 S a2 a4 a6 s0 s1 = some r) : AW MX9_scoreOf rmX9_scoreOf l g x0 (.inl (some (.int r))) (moE g mo sz S) 0 0 (moE g mo sz S) 64 [(2, .long a2), (4, .long a4), (6, .long a6)] [.int s1, .int s0] := by
  rw [fX9_scoreOf_64] at hf
  refine aw_isub dX9_scoreOf_64 ?_
  refine aw_istore [(8, .int (s0 - s1)), (2, .long a2), (4, .long a4), (6, .long a6)] dX9_scoreOf_65 (by decide) rfl ?_
  refine aw_lload 3 dX9_scoreOf_67 rfl ?_
  refine aw_lstore [(9, .long a6), (8, .int (s0 - s1)), (2, .long a2), (4, .long a4), (6, .long a6)] dX9_scoreOf_69 (by decide) rfl ?_
  refine aw_lv [2, 3, 4, 1, 0] rfl ?_
  exact wkX9_scoreOf_71 hl _ _ _ _ _ _ _ hf
def fX9_scoreOf (S : MS) (a1 : Int32) : Option (Int32) :=
  (if xin a1 16 = true then (if xin (m_I S 11 a1.toNatClampNeg) 4096 = true then (fX9_bits (m_J S 18 (m_I S 11 a1.toNatClampNeg).toNatClampNeg)).bind fun q3 => (fX9_bits (m_J S 19 (m_I S 11 a1.toNatClampNeg).toNatClampNeg)).bind fun q4 => (if (m_I S 7 a1.toNatClampNeg) = 0 then fX9_scoreOf_64 S (m_J S 18 (m_I S 11 a1.toNatClampNeg).toNatClampNeg) (m_J S 19 (m_I S 11 a1.toNatClampNeg).toNatClampNeg) ((562949953421311 : Int64) &&& (((m_J S 18 (m_I S 11 a1.toNatClampNeg).toNatClampNeg) ||| (m_J S 19 (m_I S 11 a1.toNatClampNeg).toNatClampNeg)) ^^^ (-1 : Int64))) (q3 - q4) (6 : Int32) else fX9_scoreOf_64 S (m_J S 18 (m_I S 11 a1.toNatClampNeg).toNatClampNeg) (m_J S 19 (m_I S 11 a1.toNatClampNeg).toNatClampNeg) ((562949953421311 : Int64) &&& (((m_J S 18 (m_I S 11 a1.toNatClampNeg).toNatClampNeg) ||| (m_J S 19 (m_I S 11 a1.toNatClampNeg).toNatClampNeg)) ^^^ (-1 : Int64))) (q3 - q4) (0 : Int32)) else none) else none)
set_option maxHeartbeats 4000000 in
set_option maxRecDepth 100000 in
theorem ctX9_scoreOf {l : Launch} {g : xG} {mo sz : Nat} (hl : l.stackTraces = false) {r : Int32} (S : MS) (a1 : Int32) (hf : fX9_scoreOf S a1 = some r) : CT yX9_scoreOf MX9_scoreOf rmX9_scoreOf l g [.ref mo, .int a1] (moE g mo sz S) (.inl (some (.int r))) (moE g mo sz S) := by
  rw [fX9_scoreOf] at hf
  refine CT.of (lv0 := [(0, .ref mo), (1, .int a1)]) (by decide +kernel) rfl rfl (Nat.le_of_ble_eq_true rfl) rfl hl ?_
  refine aw_aload_n 0 dX9_scoreOf_0 rfl ?_
  refine mo_getR 22 18 rfl (by decide) (wl4 (i := 120) rfl rfl) dX9_scoreOf_1 ?_
  refine aw_aload_n 0 dX9_scoreOf_4 rfl ?_
  refine mo_getR 13 11 rfl (by decide) (wl4 (i := 111) rfl rfl) dX9_scoreOf_5 ?_
  refine aw_iload_n 1 dX9_scoreOf_8 rfl ?_
  obtain ⟨hi1, hf⟩ := xifn hf
  refine mo_iald 11 16 rfl (xin_v hi1) dX9_scoreOf_9 ?_
  obtain ⟨hi2, hf⟩ := xifn hf
  refine mo_lald 18 4096 rfl (xin_v hi2) dX9_scoreOf_10 ?_
  refine aw_lstore_n [(2, .long (m_J S 18 (m_I S 11 a1.toNatClampNeg).toNatClampNeg)), (0, .ref mo), (1, .int a1)] dX9_scoreOf_11 rfl (by decide) rfl ?_
  refine aw_aload_n 1 dX9_scoreOf_12 rfl ?_
  refine mo_getR 23 19 rfl (by decide) (wl4 (i := 121) rfl rfl) dX9_scoreOf_13 ?_
  refine aw_aload_n 1 dX9_scoreOf_16 rfl ?_
  refine mo_getR 13 11 rfl (by decide) (wl4 (i := 111) rfl rfl) dX9_scoreOf_17 ?_
  refine aw_iload_n 2 dX9_scoreOf_20 rfl ?_
  refine mo_iald 11 16 rfl (xin_v hi1) dX9_scoreOf_21 ?_
  refine mo_lald 19 4096 rfl (xin_v hi2) dX9_scoreOf_22 ?_
  refine aw_lstore [(4, .long (m_J S 19 (m_I S 11 a1.toNatClampNeg).toNatClampNeg)), (2, .long (m_J S 18 (m_I S 11 a1.toNatClampNeg).toNatClampNeg)), (0, .ref mo), (1, .int a1)] dX9_scoreOf_23 (by decide) rfl ?_
  refine aw_ldc2 (562949953421311 : Int64) rfl (wl5 (i := 96) rfl rfl) dX9_scoreOf_25 ?_
  refine aw_lload_n 1 dX9_scoreOf_28 rfl ?_
  refine aw_lload 0 dX9_scoreOf_29 rfl ?_
  refine aw_lor dX9_scoreOf_31 ?_
  refine aw_ldc2 (-1 : Int64) rfl (wl5 (i := 97) rfl rfl) dX9_scoreOf_32 ?_
  refine aw_lxor dX9_scoreOf_35 ?_
  refine aw_land dX9_scoreOf_36 ?_
  refine aw_lstore [(6, .long ((562949953421311 : Int64) &&& (((m_J S 18 (m_I S 11 a1.toNatClampNeg).toNatClampNeg) ||| (m_J S 19 (m_I S 11 a1.toNatClampNeg).toNatClampNeg)) ^^^ (-1 : Int64)))), (4, .long (m_J S 19 (m_I S 11 a1.toNatClampNeg).toNatClampNeg)), (2, .long (m_J S 18 (m_I S 11 a1.toNatClampNeg).toNatClampNeg)), (0, .ref mo), (1, .int a1)] dX9_scoreOf_37 (by decide) rfl ?_
  refine aw_lload_n 2 dX9_scoreOf_39 rfl ?_
  obtain ⟨q3, hq3, hf⟩ := xbind hf
  refine aw_callS [.long (m_J S 18 (m_I S 11 a1.toNatClampNeg).toNatClampNeg)] 1 (ctX9_bits hl _ hq3) ⟨wl5 (i := 101) rfl rfl, ciX9_bits⟩ (wl5 (i := 102) rfl rfl) dX9_scoreOf_40 rfl rfl (Nat.le_of_ble_eq_true rfl) ⟨Nat.le_of_ble_eq_true rfl, Nat.le_of_ble_eq_true rfl⟩ ⟨Nat.le_of_ble_eq_true rfl, Nat.le_of_ble_eq_true rfl⟩ ?_
  refine aw_lload 1 dX9_scoreOf_43 rfl ?_
  obtain ⟨q4, hq4, hf⟩ := xbind hf
  refine aw_callS [.long (m_J S 19 (m_I S 11 a1.toNatClampNeg).toNatClampNeg)] 1 (ctX9_bits hl _ hq4) ⟨wl5 (i := 101) rfl rfl, ciX9_bits⟩ (wl5 (i := 102) rfl rfl) dX9_scoreOf_45 rfl rfl (Nat.le_of_ble_eq_true rfl) ⟨Nat.le_of_ble_eq_true rfl, Nat.le_of_ble_eq_true rfl⟩ ⟨Nat.le_of_ble_eq_true rfl, Nat.le_of_ble_eq_true rfl⟩ ?_
  refine aw_isub dX9_scoreOf_48 ?_
  refine aw_aload_n 3 dX9_scoreOf_49 rfl ?_
  refine mo_getR 9 7 rfl (by decide) (wl4 (i := 107) rfl rfl) dX9_scoreOf_50 ?_
  refine aw_iload_n 4 dX9_scoreOf_53 rfl ?_
  refine mo_iald 7 16 rfl (xin_v hi1) dX9_scoreOf_54 ?_
  refine aw_if_ne 63 dX9_scoreOf_55 (by decide) (fun c5 => ?_) (fun c5 => ?_)
  · rw [if_neg c5] at hf
    refine aw_iconst (0 : Int32) dX9_scoreOf_63 (by decide) ?_
    refine aw_lv [2, 1, 0] rfl ?_
    exact wkX9_scoreOf_64 hl _ _ _ _ _ _ hf
  · rw [if_pos c5] at hf
    refine aw_bipush (6 : Int32) dX9_scoreOf_58 (by decide) ?_
    refine aw_goto 64 dX9_scoreOf_60 (by decide) ?_
    refine aw_lv [2, 1, 0] rfl ?_
    exact wkX9_scoreOf_64 hl _ _ _ _ _ _ hf
abbrev MX9_pass : xM := (RX9, cX9_pass, 5, (some .int), "pass")
abbrev rmX9_pass : Room := { frames := 3, cells := 0, slots := 0, locals := 82 }
theorem ciX9_pass : Cond.code yX9_pass cX9_pass 5 (some .int) ∈ wt ∧ Cond.initialized yX9_pass.cls ∈ wt ∧ (yX9_pass.cls ≠ "java/lang/invoke/MethodHandle" ∧ yX9_pass.cls ≠ "java/lang/invoke/VarHandle" ∧ (parseMethodDescriptor yX9_pass.desc).map (fun d => d.parameters.length) = some 2) := ⟨wl5 (i := 127) rfl rfl, wl1 (i := 4) rfl rfl, by decide +kernel, by decide +kernel, by decide +kernel⟩
def fX9_pass_176 (S : MS) (a1 : Int32) : Option (Int32 × MS) :=
  (if xin a1 16 = true then some ((m_I S 8 a1.toNatClampNeg), S) else none)
set_option maxHeartbeats 4000000 in
set_option maxRecDepth 100000 in
theorem wkX9_pass_176 {l : Launch} {g : xG} {x0 : xV} {mo sz : Nat} (hl : l.stackTraces = false) {r : Int32 × MS} (S : MS) (a1 : Int32) (hf : fX9_pass_176 S a1 = some r) : AW MX9_pass rmX9_pass l g x0 (.inl (some (.int r.1))) (moE g mo sz r.2) 0 0 (moE g mo sz S) 176 [(0, .ref mo), (1, .int a1)] [] := by
  rw [fX9_pass_176] at hf
  refine aw_aload_n 0 dX9_pass_176 rfl ?_
  refine mo_getR 10 8 rfl (by decide) (wl4 (i := 108) rfl rfl) dX9_pass_177 ?_
  refine aw_iload_n 1 dX9_pass_180 rfl ?_
  obtain ⟨hi1, hf⟩ := xifn hf
  refine mo_iald 8 16 rfl (xin_v hi1) dX9_pass_181 ?_
  cases hf
  exact aw_iret dX9_pass_182 rfl rfl rfl ⟨Nat.le_of_ble_eq_true rfl, Nat.le_of_ble_eq_true rfl⟩
def fX9_pass_173 (S : MS) (a1 : Int32) (s1 : Int32) (s2 : Int32) : Option (Int32 × MS) :=
  (fX9_ends S s1 s2).bind fun q1 => fX9_pass_176 q1 a1
set_option maxHeartbeats 4000000 in
set_option maxRecDepth 100000 in
theorem wkX9_pass_173 {l : Launch} {g : xG} {x0 : xV} {mo sz : Nat} (hl : l.stackTraces = false) {r : Int32 × MS} (S : MS) (a1 : Int32) (s1 : Int32) (s2 : Int32) (hf : fX9_pass_173 S a1 s1 s2 = some r) : AW MX9_pass rmX9_pass l g x0 (.inl (some (.int r.1))) (moE g mo sz r.2) 0 0 (moE g mo sz S) 173 [(0, .ref mo), (1, .int a1)] [.int s2, .int s1, .ref mo] := by
  rw [fX9_pass_173] at hf
  obtain ⟨q1, hq1, hf⟩ := xbind hf
  refine aw_callV 7 (some mo) [.int s1, .int s2] 2 rfl mo_ob rfl rfl (ctX9_ends hl _ _ _ hq1) ⟨wl5 (i := 112) rfl rfl, ciX9_ends⟩ (wl5 (i := 114) rfl rfl) (wl0 (i := 33) rfl rfl) dX9_pass_173 rfl rfl (Nat.le_of_ble_eq_true rfl) ⟨Nat.le_of_ble_eq_true rfl, Nat.le_of_ble_eq_true rfl⟩ ⟨Nat.le_of_ble_eq_true rfl, Nat.le_of_ble_eq_true rfl⟩ ?_
  refine aw_lv [0, 1] rfl ?_
  exact wkX9_pass_176 hl _ _ hf
def fX9_pass_44 (S : MS) (a1 : Int32) (a2 : Int32) (s1 : Int32) : Option (Int32 × MS) :=
  (fX9_fails S s1).bind fun q1 => (if q1.1 = false then (if xin a1 16 = true then (fX9_sideOf q1.2 a1 (m_I q1.2 12 a1.toNatClampNeg)).bind fun q4 => (fX9_runsOut q1.2 a1 a2).bind fun q5 => (if q5.1 = false then (if xin (m_I q5.2 11 a1.toNatClampNeg) 4096 = true then (fX9_keeps q5.2 (m_J q5.2 18 (m_I q5.2 11 a1.toNatClampNeg).toNatClampNeg) (m_J q5.2 19 (m_I q5.2 11 a1.toNatClampNeg).toNatClampNeg) (m_I q5.2 11 a1.toNatClampNeg)).bind fun q8 => (some (ms_I (ms_I q8.2 11 a1.toNatClampNeg q8.1) 12 a1.toNatClampNeg ((m_I (ms_I q8.2 11 a1.toNatClampNeg q8.1) 12 a1.toNatClampNeg) + (1 : Int32)))).bind fun W9 => (some (ms_I W9 13 a1.toNatClampNeg ((m_I W9 13 a1.toNatClampNeg) + (1 : Int32)))).bind fun W10 => (if (m_I W10 13 a1.toNatClampNeg) = (2 : Int32) then (fX9_scoreOf W10 a1).bind fun q12 => (if q12 ≤ 0 then fX9_pass_173 W10 a1 a1 (1 : Int32) else fX9_pass_173 W10 a1 a1 (0 : Int32)) else fX9_pass_176 W10 a1) else none) else (fX9_ends q5.2 a1 ((1 : Int32) - q4)).bind fun q14 => some ((m_I q14 8 a1.toNatClampNeg), q14)) else none) else some ((0 : Int32), q1.2))
set_option maxHeartbeats 4000000 in
set_option maxRecDepth 100000 in
theorem wkX9_pass_44 {l : Launch} {g : xG} {x0 : xV} {mo sz : Nat} (hl : l.stackTraces = false) {r : Int32 × MS} (S : MS) (a1 : Int32) (a2 : Int32) (s1 : Int32) (hf : fX9_pass_44 S a1 a2 s1 = some r) : AW MX9_pass rmX9_pass l g x0 (.inl (some (.int r.1))) (moE g mo sz r.2) 0 0 (moE g mo sz S) 44 [(0, .ref mo), (1, .int a1), (2, .int a2)] [.int s1, .ref mo] := by
  rw [fX9_pass_44] at hf
  obtain ⟨q1, hq1, hf⟩ := xbind hf
  refine aw_callV 7 (some mo) [.int s1] 1 rfl mo_ob rfl rfl (ctX9_fails hl _ _ hq1) ⟨wl5 (i := 16) rfl rfl, ciX9_fails⟩ (wl5 (i := 18) rfl rfl) (wl0 (i := 19) rfl rfl) dX9_pass_44 rfl rfl (Nat.le_of_ble_eq_true rfl) ⟨Nat.le_of_ble_eq_true rfl, Nat.le_of_ble_eq_true rfl⟩ ⟨Nat.le_of_ble_eq_true rfl, Nat.le_of_ble_eq_true rfl⟩ ?_
  refine aw_ifb_eq 52 dX9_pass_47 (by decide) (fun c2 => ?_) (fun c2 => ?_)
  · rw [if_pos c2] at hf
    refine aw_aload_n 0 dX9_pass_52 rfl ?_
    refine aw_iload_n 1 dX9_pass_53 rfl ?_
    refine aw_aload_n 0 dX9_pass_54 rfl ?_
    refine mo_getR 14 12 rfl (by decide) (wl4 (i := 112) rfl rfl) dX9_pass_55 ?_
    refine aw_iload_n 1 dX9_pass_58 rfl ?_
    obtain ⟨hi3, hf⟩ := xifn hf
    refine mo_iald 12 16 rfl (xin_v hi3) dX9_pass_59 ?_
    obtain ⟨q4, hq4, hf⟩ := xbind hf
    refine aw_callV 7 (some mo) [.int a1, .int (m_I q1.2 12 a1.toNatClampNeg)] 2 rfl mo_ob rfl rfl (ctX9_sideOf hl _ _ _ hq4) ⟨wl5 (i := 77) rfl rfl, ciX9_sideOf⟩ (wl5 (i := 79) rfl rfl) (wl0 (i := 29) rfl rfl) dX9_pass_60 rfl rfl (Nat.le_of_ble_eq_true rfl) ⟨Nat.le_of_ble_eq_true rfl, Nat.le_of_ble_eq_true rfl⟩ ⟨Nat.le_of_ble_eq_true rfl, Nat.le_of_ble_eq_true rfl⟩ ?_
    refine aw_istore [(4, .int q4), (0, .ref mo), (1, .int a1), (2, .int a2)] dX9_pass_63 (by decide) rfl ?_
    refine aw_aload_n 1 dX9_pass_65 rfl ?_
    refine aw_iload_n 2 dX9_pass_66 rfl ?_
    refine aw_iload_n 3 dX9_pass_67 rfl ?_
    obtain ⟨q5, hq5, hf⟩ := xbind hf
    refine aw_callV 7 (some mo) [.int a1, .int a2] 2 rfl mo_ob rfl rfl (ctX9_runsOut hl _ _ _ hq5) ⟨wl5 (i := 108) rfl rfl, ciX9_runsOut⟩ (wl5 (i := 110) rfl rfl) (wl0 (i := 32) rfl rfl) dX9_pass_68 rfl rfl (Nat.le_of_ble_eq_true rfl) ⟨Nat.le_of_ble_eq_true rfl, Nat.le_of_ble_eq_true rfl⟩ ⟨Nat.le_of_ble_eq_true rfl, Nat.le_of_ble_eq_true rfl⟩ ?_
    refine aw_ifb_eq 90 dX9_pass_71 (by decide) (fun c6 => ?_) (fun c6 => ?_)
    · rw [if_pos c6] at hf
      refine aw_aload_n 1 dX9_pass_90 rfl ?_
      refine mo_getR 13 11 rfl (by decide) (wl4 (i := 111) rfl rfl) dX9_pass_91 ?_
      refine aw_iload_n 2 dX9_pass_94 rfl ?_
      refine aw_aload_n 1 dX9_pass_95 rfl ?_
      refine aw_aload_n 1 dX9_pass_96 rfl ?_
      refine mo_getR 22 18 rfl (by decide) (wl4 (i := 120) rfl rfl) dX9_pass_97 ?_
      refine aw_aload_n 1 dX9_pass_100 rfl ?_
      refine mo_getR 13 11 rfl (by decide) (wl4 (i := 111) rfl rfl) dX9_pass_101 ?_
      refine aw_iload_n 2 dX9_pass_104 rfl ?_
      refine mo_iald 11 16 rfl (xin_v hi3) dX9_pass_105 ?_
      obtain ⟨hi7, hf⟩ := xifn hf
      refine mo_lald 18 4096 rfl (xin_v hi7) dX9_pass_106 ?_
      refine aw_aload_n 1 dX9_pass_107 rfl ?_
      refine mo_getR 23 19 rfl (by decide) (wl4 (i := 121) rfl rfl) dX9_pass_108 ?_
      refine aw_aload_n 1 dX9_pass_111 rfl ?_
      refine mo_getR 13 11 rfl (by decide) (wl4 (i := 111) rfl rfl) dX9_pass_112 ?_
      refine aw_iload_n 2 dX9_pass_115 rfl ?_
      refine mo_iald 11 16 rfl (xin_v hi3) dX9_pass_116 ?_
      refine mo_lald 19 4096 rfl (xin_v hi7) dX9_pass_117 ?_
      refine aw_aload_n 1 dX9_pass_118 rfl ?_
      refine mo_getR 13 11 rfl (by decide) (wl4 (i := 111) rfl rfl) dX9_pass_119 ?_
      refine aw_iload_n 2 dX9_pass_122 rfl ?_
      refine mo_iald 11 16 rfl (xin_v hi3) dX9_pass_123 ?_
      obtain ⟨q8, hq8, hf⟩ := xbind hf
      refine aw_callV 7 (some mo) [.long (m_J q5.2 18 (m_I q5.2 11 a1.toNatClampNeg).toNatClampNeg), .long (m_J q5.2 19 (m_I q5.2 11 a1.toNatClampNeg).toNatClampNeg), .int (m_I q5.2 11 a1.toNatClampNeg)] 3 rfl mo_ob rfl rfl (ctX9_keeps hl _ _ _ _ hq8) ⟨wl5 (i := 54) rfl rfl, ciX9_keeps⟩ (wl5 (i := 56) rfl rfl) (wl0 (i := 25) rfl rfl) dX9_pass_124 rfl rfl (Nat.le_of_ble_eq_true rfl) ⟨Nat.le_of_ble_eq_true rfl, Nat.le_of_ble_eq_true rfl⟩ ⟨Nat.le_of_ble_eq_true rfl, Nat.le_of_ble_eq_true rfl⟩ ?_
      refine mo_iast 11 16 rfl (xin_v hi3) dX9_pass_127 ?_
      refine aw_aload_n 1 dX9_pass_128 rfl ?_
      refine mo_getR 14 12 rfl (by decide) (wl4 (i := 112) rfl rfl) dX9_pass_129 ?_
      refine aw_iload_n 2 dX9_pass_132 rfl ?_
      refine aw_dup2 dX9_pass_133 rfl rfl ?_
      refine mo_iald 12 16 rfl (xin_v hi3) dX9_pass_134 ?_
      refine aw_iconst (1 : Int32) dX9_pass_135 (by decide) ?_
      refine aw_iadd dX9_pass_136 ?_
      obtain ⟨W9, hW9, hf⟩ := xlet hf
      refine mo_iast 12 16 rfl (xin_v hi3) dX9_pass_137 ?_
      rw [hW9]
      refine aw_aload_n 1 dX9_pass_138 rfl ?_
      refine mo_getR 15 13 rfl (by decide) (wl4 (i := 113) rfl rfl) dX9_pass_139 ?_
      refine aw_iload_n 2 dX9_pass_142 rfl ?_
      refine aw_dup2 dX9_pass_143 rfl rfl ?_
      refine mo_iald 13 16 rfl (xin_v hi3) dX9_pass_144 ?_
      refine aw_iconst (1 : Int32) dX9_pass_145 (by decide) ?_
      refine aw_iadd dX9_pass_146 ?_
      obtain ⟨W10, hW10, hf⟩ := xlet hf
      refine mo_iast 13 16 rfl (xin_v hi3) dX9_pass_147 ?_
      rw [hW10]
      refine aw_aload_n 1 dX9_pass_148 rfl ?_
      refine mo_getR 15 13 rfl (by decide) (wl4 (i := 113) rfl rfl) dX9_pass_149 ?_
      refine aw_iload_n 2 dX9_pass_152 rfl ?_
      refine mo_iald 13 16 rfl (xin_v hi3) dX9_pass_153 ?_
      refine aw_iconst (2 : Int32) dX9_pass_154 (by decide) ?_
      refine aw_icmp_ne 176 dX9_pass_155 (by decide) (fun c11 => ?_) (fun c11 => ?_)
      · rw [if_neg c11] at hf
        refine aw_lv [1, 2] rfl ?_
        exact wkX9_pass_176 hl _ _ hf
      · rw [if_pos c11] at hf
        refine aw_aload_n 1 dX9_pass_158 rfl ?_
        refine aw_iload_n 2 dX9_pass_159 rfl ?_
        refine aw_aload_n 1 dX9_pass_160 rfl ?_
        refine aw_iload_n 2 dX9_pass_161 rfl ?_
        obtain ⟨q12, hq12, hf⟩ := xbind hf
        refine aw_callV 7 (some mo) [.int a1] 1 rfl mo_ob rfl rfl (ctX9_scoreOf hl _ _ hq12) ⟨wl5 (i := 128) rfl rfl, ciX9_scoreOf⟩ (wl5 (i := 130) rfl rfl) (wl0 (i := 36) rfl rfl) dX9_pass_162 rfl rfl (Nat.le_of_ble_eq_true rfl) ⟨Nat.le_of_ble_eq_true rfl, Nat.le_of_ble_eq_true rfl⟩ ⟨Nat.le_of_ble_eq_true rfl, Nat.le_of_ble_eq_true rfl⟩ ?_
        refine aw_if_le 172 dX9_pass_165 (by decide) (fun c13 => ?_) (fun c13 => ?_)
        · rw [if_pos c13] at hf
          refine aw_iconst (1 : Int32) dX9_pass_172 (by decide) ?_
          refine aw_lv [1, 2] rfl ?_
          exact wkX9_pass_173 hl _ _ _ _ hf
        · rw [if_neg c13] at hf
          refine aw_iconst (0 : Int32) dX9_pass_168 (by decide) ?_
          refine aw_goto 173 dX9_pass_169 (by decide) ?_
          refine aw_lv [1, 2] rfl ?_
          exact wkX9_pass_173 hl _ _ _ _ hf
    · rw [if_neg c6] at hf
      refine aw_aload_n 1 dX9_pass_74 rfl ?_
      refine aw_iload_n 2 dX9_pass_75 rfl ?_
      refine aw_iconst (1 : Int32) dX9_pass_76 (by decide) ?_
      refine aw_iload 0 dX9_pass_77 rfl ?_
      refine aw_isub dX9_pass_79 ?_
      obtain ⟨q14, hq14, hf⟩ := xbind hf
      refine aw_callV 7 (some mo) [.int a1, .int ((1 : Int32) - q4)] 2 rfl mo_ob rfl rfl (ctX9_ends hl _ _ _ hq14) ⟨wl5 (i := 112) rfl rfl, ciX9_ends⟩ (wl5 (i := 114) rfl rfl) (wl0 (i := 33) rfl rfl) dX9_pass_80 rfl rfl (Nat.le_of_ble_eq_true rfl) ⟨Nat.le_of_ble_eq_true rfl, Nat.le_of_ble_eq_true rfl⟩ ⟨Nat.le_of_ble_eq_true rfl, Nat.le_of_ble_eq_true rfl⟩ ?_
      refine aw_aload_n 1 dX9_pass_83 rfl ?_
      refine mo_getR 10 8 rfl (by decide) (wl4 (i := 108) rfl rfl) dX9_pass_84 ?_
      refine aw_iload_n 2 dX9_pass_87 rfl ?_
      refine mo_iald 8 16 rfl (xin_v hi3) dX9_pass_88 ?_
      cases hf
      exact aw_iret dX9_pass_89 rfl rfl rfl ⟨Nat.le_of_ble_eq_true rfl, Nat.le_of_ble_eq_true rfl⟩
  · rw [if_neg c2] at hf
    refine aw_iconst (0 : Int32) dX9_pass_50 (by decide) ?_
    cases hf
    exact aw_iret dX9_pass_51 rfl rfl rfl ⟨Nat.le_of_ble_eq_true rfl, Nat.le_of_ble_eq_true rfl⟩
def fX9_pass (S : MS) (a1 : Int32) (a2 : Int32) : Option (Int32 × MS) :=
  (fX9_isGame S a1).bind fun q1 => (if q1 = false then fX9_pass_44 S a1 a2 (1 : Int32) else (fX9_isIn a2 (0 : Int32) (1000 : Int32)).bind fun q3 => (if q3 = false then fX9_pass_44 S a1 a2 (2 : Int32) else (if xin a1 16 = true then (if (m_I S 8 a1.toNatClampNeg) = 0 then fX9_pass_44 S a1 a2 (0 : Int32) else fX9_pass_44 S a1 a2 (3 : Int32)) else none)))
set_option maxHeartbeats 4000000 in
set_option maxRecDepth 100000 in
theorem ctX9_pass {l : Launch} {g : xG} {mo sz : Nat} (hl : l.stackTraces = false) {r : Int32 × MS} (S : MS) (a1 : Int32) (a2 : Int32) (hf : fX9_pass S a1 a2 = some r) : CT yX9_pass MX9_pass rmX9_pass l g [.ref mo, .int a1, .int a2] (moE g mo sz S) (.inl (some (.int r.1))) (moE g mo sz r.2) := by
  rw [fX9_pass] at hf
  refine CT.of (lv0 := [(0, .ref mo), (1, .int a1), (2, .int a2)]) (by decide +kernel) rfl rfl (Nat.le_of_ble_eq_true rfl) rfl hl ?_
  refine aw_aload_n 0 dX9_pass_0 rfl ?_
  refine aw_iload_n 1 dX9_pass_1 rfl ?_
  obtain ⟨q1, hq1, hf⟩ := xbind hf
  refine aw_callV 7 (some mo) [.int a1] 1 rfl mo_ob rfl rfl (ctX9_isGame hl _ _ hq1) ⟨wl5 (i := 62) rfl rfl, ciX9_isGame⟩ (wl5 (i := 64) rfl rfl) (wl0 (i := 26) rfl rfl) dX9_pass_2 rfl rfl (Nat.le_of_ble_eq_true rfl) ⟨Nat.le_of_ble_eq_true rfl, Nat.le_of_ble_eq_true rfl⟩ ⟨Nat.le_of_ble_eq_true rfl, Nat.le_of_ble_eq_true rfl⟩ ?_
  refine aw_istore_n [(3, .int (bi q1)), (0, .ref mo), (1, .int a1), (2, .int a2)] dX9_pass_5 rfl (by decide) rfl ?_
  refine aw_aload_n 1 dX9_pass_6 rfl ?_
  refine aw_iload_n 0 dX9_pass_7 rfl ?_
  refine aw_ifb_ne 15 dX9_pass_8 (by decide) (fun c2 => ?_) (fun c2 => ?_)
  · rw [if_neg c2] at hf
    refine aw_iload_n 3 dX9_pass_15 rfl ?_
    refine aw_iconst (0 : Int32) dX9_pass_16 (by decide) ?_
    refine aw_sipush (1000 : Int32) dX9_pass_17 (by decide) ?_
    obtain ⟨q3, hq3, hf⟩ := xbind hf
    refine aw_callS [.int a2, .int (0 : Int32), .int (1000 : Int32)] 3 (ctX9_isIn hl _ _ _ hq3) ⟨wl5 (i := 13) rfl rfl, ciX9_isIn⟩ (wl5 (i := 14) rfl rfl) dX9_pass_20 rfl rfl (Nat.le_of_ble_eq_true rfl) ⟨Nat.le_of_ble_eq_true rfl, Nat.le_of_ble_eq_true rfl⟩ ⟨Nat.le_of_ble_eq_true rfl, Nat.le_of_ble_eq_true rfl⟩ ?_
    refine aw_ifb_ne 30 dX9_pass_23 (by decide) (fun c4 => ?_) (fun c4 => ?_)
    · rw [if_neg c4] at hf
      refine aw_aload_n 1 dX9_pass_30 rfl ?_
      refine mo_getR 10 8 rfl (by decide) (wl4 (i := 108) rfl rfl) dX9_pass_31 ?_
      refine aw_iload_n 2 dX9_pass_34 rfl ?_
      obtain ⟨hi5, hf⟩ := xifn hf
      refine mo_iald 8 16 rfl (xin_v hi5) dX9_pass_35 ?_
      refine aw_if_ne 43 dX9_pass_36 (by decide) (fun c6 => ?_) (fun c6 => ?_)
      · rw [if_neg c6] at hf
        refine aw_iconst (3 : Int32) dX9_pass_43 (by decide) ?_
        refine aw_lv [1, 2, 3] rfl ?_
        exact wkX9_pass_44 hl _ _ _ _ hf
      · rw [if_pos c6] at hf
        refine aw_iconst (0 : Int32) dX9_pass_39 (by decide) ?_
        refine aw_goto 44 dX9_pass_40 (by decide) ?_
        refine aw_lv [1, 2, 3] rfl ?_
        exact wkX9_pass_44 hl _ _ _ _ hf
    · rw [if_pos c4] at hf
      refine aw_iconst (2 : Int32) dX9_pass_26 (by decide) ?_
      refine aw_goto 44 dX9_pass_27 (by decide) ?_
      refine aw_lv [1, 2, 3] rfl ?_
      exact wkX9_pass_44 hl _ _ _ _ hf
  · rw [if_pos c2] at hf
    refine aw_iconst (1 : Int32) dX9_pass_11 (by decide) ?_
    refine aw_goto 44 dX9_pass_12 (by decide) ?_
    refine aw_lv [1, 2, 3] rfl ?_
    exact wkX9_pass_44 hl _ _ _ _ hf
