/-! The law's own methods that call the class, as predicates: what must hold for the method to come to its end with K. -/
abbrev ML_part : xM := (RL, cL_part, 4, (some .int), "part")
abbrev rmL_part : Room := { frames := 0, cells := 0, slots := 0, locals := 0 }
theorem ciL_part : Cond.code yL_part cL_part 4 (some .int) ∈ wt ∧ Cond.initialized yL_part.cls ∈ wt ∧ (yL_part.cls ≠ "java/lang/invoke/MethodHandle" ∧ yL_part.cls ≠ "java/lang/invoke/VarHandle" ∧ (parseMethodDescriptor yL_part.desc).map (fun d => d.parameters.length) = some 3) := ⟨wl4 (i := 73) rfl rfl, wl1 (i := 0) rfl rfl, by decide +kernel, by decide +kernel, by decide +kernel⟩
def gL_part_25 (lo t Ls : Nat) (xs : Nat → Int32) (K : Int32 → TH → MS → Prop) (h : TH) (L : MS) (a2 : Int32) (s0 : Int32) : Prop :=
  (¬ a2 = 0 ∧ K ((s0 &&& (2147483647 : Int32)) - (s0 &&& (2147483647 : Int32)) / a2 * a2) h L)
set_option maxHeartbeats 4000000 in
set_option maxRecDepth 100000 in
theorem wkL_part_25 {l : Launch} {g : xG} {x0 : xV} {b lo t Ls : Nat} {xs : Nat → Int32} {K : Int32 → TH → MS → Prop} {kc ks : Nat} (hl : l.stackTraces = false) (hb : b + 8 < lo) (hb0 : b < x0.1 ∧ x0.2 b = none) (h : TH) (L : MS) (a2 : Int32) (s0 : Int32) (hD : LDp lo h) (hc : kc + (0) ≤ 0 ∧ ks + (0) ≤ 0) (hf : gL_part_25 lo t Ls xs K h L a2 s0) : AWG (XS b Ls xs) (zR rmL_part g lo x0 K) ML_part rmL_part l g x0 kc ks (LW g lo h L) 25 [(2, .int a2)] [.int s0] := by
  rw [gL_part_25] at hf
  refine ag_istore_n [(3, .int s0), (2, .int a2)] dL_part_25 rfl (by decide) rfl ?_
  refine ag_iload_n 0 dL_part_26 rfl ?_
  refine ag_ldc (2147483647 : Int32) rfl (wl4 (i := 74) rfl rfl) dL_part_27 ?_
  refine ag_iand dL_part_29 ?_
  refine ag_iload_n 1 dL_part_30 rfl ?_
  obtain ⟨hz1, hf⟩ := hf
  refine ag_irem dL_part_31 hz1 ?_
  exact agr_iret hD hf dL_part_32 rfl ⟨show kc + 0 ≤ 0 by omega, show ks + 0 ≤ 0 by omega⟩
def gL_part (lo t Ls : Nat) (xs : Nat → Int32) (K : Int32 → TH → MS → Prop) (h : TH) (L : MS) (a1 : Int32) (a2 : Int32) : Prop :=
  (if (Int32.ofNat Ls) ≤ a1 then gL_part_25 lo t Ls xs K h L a2 (((587 : Int32) * a1) + (((439 : Int32) * a1) * a1)) else (xin a1 Ls = true ∧ gL_part_25 lo t Ls xs K h L a2 (xs a1.toNatClampNeg)))
set_option maxHeartbeats 4000000 in
set_option maxRecDepth 100000 in
theorem ctL_part {l : Launch} {g : xG} {b lo t Ls : Nat} {xs : Nat → Int32} {K : Int32 → TH → MS → Prop} (hl : l.stackTraces = false) (hb : b + 8 < lo) (h : TH) (L : MS) (a1 : Int32) (a2 : Int32) (hD : LDp lo h) (hf : gL_part lo t Ls xs K h L a1 a2) : RT yL_part ML_part rmL_part l g lo b Ls xs [.ref b, .int a1, .int a2] (LW g lo h L) K := by
  rw [gL_part] at hf
  refine RT.of (lv0 := [(0, .ref b), (1, .int a1), (2, .int a2)]) (by decide +kernel) rfl rfl (by simp [lg_sl, cat_q, cat_i, cat_l, cat_r]) (by simp [lv_args, cat_q, cat_i, cat_l, cat_r]) hl ?_
  have hb0 := LW_no (g := g) (L := L) hD hb
  have hc : 0 + 0 ≤ 0 ∧ 0 + 0 ≤ 0 := ⟨by omega, by omega⟩
  refine ag_iload_n 1 dL_part_0 rfl ?_
  refine ag_aload_n 0 dL_part_1 rfl ?_
  refine ag_slen (fun s a c h => h.2) hb0 dL_part_2 ?_
  refine ag_icmp_ge 12 dL_part_3 (by decide) (fun c1 => ?_) (fun c1 => ?_)
  · rw [if_pos c1] at hf
    refine ag_sipush (587 : Int32) dL_part_12 (by decide) ?_
    refine ag_iload_n 1 dL_part_15 rfl ?_
    refine ag_imul dL_part_16 ?_
    refine ag_sipush (439 : Int32) dL_part_17 (by decide) ?_
    refine ag_iload_n 1 dL_part_20 rfl ?_
    refine ag_imul dL_part_21 ?_
    refine ag_iload_n 1 dL_part_22 rfl ?_
    refine ag_imul dL_part_23 ?_
    refine ag_iadd dL_part_24 ?_
    refine ag_lv [2] rfl ?_
    exact wkL_part_25 hl hb hb0 _ _ _ _ hD ⟨show 0 + (0) ≤ 0 by omega, show 0 + (0) ≤ 0 by omega⟩ hf
  · rw [if_neg c1] at hf
    refine ag_aload_n 0 dL_part_6 rfl ?_
    refine ag_iload_n 1 dL_part_7 rfl ?_
    obtain ⟨hi2, hf⟩ := hf
    refine ag_sld (fun s a c h => h.2) hb0 (xin_v hi2) dL_part_8 ?_
    refine ag_goto 25 dL_part_9 (by decide) ?_
    refine ag_lv [2] rfl ?_
    exact wkL_part_25 hl hb hb0 _ _ _ _ hD ⟨show 0 + (0) ≤ 0 by omega, show 0 + (0) ≤ 0 by omega⟩ hf
abbrev ML_does : xM := (RL, cL_does, 8, (some .int), "does")
abbrev rmL_does : Room := { frames := 40, cells := 125, slots := 750, locals := 2386 }
abbrev hhL_does : List (Nat × Nat × Nat × Nat) := [(0, 191, 192, 51), (0, 191, 198, 53), (0, 191, 204, 55)]
theorem ciL_does : Cond.codeWith yL_does cL_does 8 (some .int) hhL_does ∈ wt ∧ Cond.initialized yL_does.cls ∈ wt ∧ (yL_does.cls ≠ "java/lang/invoke/MethodHandle" ∧ yL_does.cls ≠ "java/lang/invoke/VarHandle" ∧ (parseMethodDescriptor yL_does.desc).map (fun d => d.parameters.length) = some 7) := ⟨wl1 (i := 131) rfl rfl, wl1 (i := 0) rfl rfl, by decide +kernel, by decide +kernel, by decide +kernel⟩
def gL_does (lo t Ls : Nat) (xs : Nat → Int32) (K : Int32 → TH → MS → Prop) (h : TH) (L : MS) (a1 : Int32) (a2 : Int32) (a3 : Int32) (a4 : Int32) (a5 : Int32) (a6 : Int32) : Prop :=
  (if a1 = 0 then (t_kd h t = 7 ∧ ((∃ v170 h171, fX8_player h t a2 = some (.inl (v170, h171)) ∧ LDp lo h171 ∧ K v170 h171 L) ∨ (∃ h173, fX8_player h t a2 = some (.inr ("java/lang/IndexOutOfBoundsException", h173)) ∧ LDp lo h173 ∧ ∀ z175, t_sz h173 ≤ z175 → K (-300 : Int32) (s_Z h173 z175) L) ∨ (∃ h176, fX8_player h t a2 = some (.inr ("java/lang/IllegalArgumentException", h176)) ∧ LDp lo h176 ∧ ∀ z178, t_sz h176 ≤ z178 → K (-200 : Int32) (s_Z h176 z178) L) ∨ (∃ h179, fX8_player h t a2 = some (.inr ("java/lang/IllegalStateException", h179)) ∧ LDp lo h179 ∧ ∀ z181, t_sz h179 ≤ z181 → K (-100 : Int32) (s_Z h179 z181) L))) else (if a1 = (1 : Int32) then (t_kd h t = 7 ∧ ((∃ v156 h157, fX8_game h t a2 a3 a4 a5 a6 = some (.inl (v156, h157)) ∧ LDp lo h157 ∧ K v156 h157 L) ∨ (∃ h159, fX8_game h t a2 a3 a4 a5 a6 = some (.inr ("java/lang/IndexOutOfBoundsException", h159)) ∧ LDp lo h159 ∧ ∀ z161, t_sz h159 ≤ z161 → K (-300 : Int32) (s_Z h159 z161) L) ∨ (∃ h162, fX8_game h t a2 a3 a4 a5 a6 = some (.inr ("java/lang/IllegalArgumentException", h162)) ∧ LDp lo h162 ∧ ∀ z164, t_sz h162 ≤ z164 → K (-200 : Int32) (s_Z h162 z164) L) ∨ (∃ h165, fX8_game h t a2 a3 a4 a5 a6 = some (.inr ("java/lang/IllegalStateException", h165)) ∧ LDp lo h165 ∧ ∀ z167, t_sz h165 ≤ z167 → K (-100 : Int32) (s_Z h165 z167) L))) else (if a1 = (2 : Int32) then (t_kd h t = 7 ∧ ((∃ v142 h143, fX8_play h t a2 a3 a4 = some (.inl (v142, h143)) ∧ LDp lo h143 ∧ K v142 h143 L) ∨ (∃ h145, fX8_play h t a2 a3 a4 = some (.inr ("java/lang/IndexOutOfBoundsException", h145)) ∧ LDp lo h145 ∧ ∀ z147, t_sz h145 ≤ z147 → K (-300 : Int32) (s_Z h145 z147) L) ∨ (∃ h148, fX8_play h t a2 a3 a4 = some (.inr ("java/lang/IllegalArgumentException", h148)) ∧ LDp lo h148 ∧ ∀ z150, t_sz h148 ≤ z150 → K (-200 : Int32) (s_Z h148 z150) L) ∨ (∃ h151, fX8_play h t a2 a3 a4 = some (.inr ("java/lang/IllegalStateException", h151)) ∧ LDp lo h151 ∧ ∀ z153, t_sz h151 ≤ z153 → K (-100 : Int32) (s_Z h151 z153) L))) else (if a1 = (3 : Int32) then (t_kd h t = 7 ∧ ((∃ v128 h129, fX8_pass h t a2 a3 = some (.inl (v128, h129)) ∧ LDp lo h129 ∧ K v128 h129 L) ∨ (∃ h131, fX8_pass h t a2 a3 = some (.inr ("java/lang/IndexOutOfBoundsException", h131)) ∧ LDp lo h131 ∧ ∀ z133, t_sz h131 ≤ z133 → K (-300 : Int32) (s_Z h131 z133) L) ∨ (∃ h134, fX8_pass h t a2 a3 = some (.inr ("java/lang/IllegalArgumentException", h134)) ∧ LDp lo h134 ∧ ∀ z136, t_sz h134 ≤ z136 → K (-200 : Int32) (s_Z h134 z136) L) ∨ (∃ h137, fX8_pass h t a2 a3 = some (.inr ("java/lang/IllegalStateException", h137)) ∧ LDp lo h137 ∧ ∀ z139, t_sz h137 ≤ z139 → K (-100 : Int32) (s_Z h137 z139) L))) else (if a1 = (4 : Int32) then (t_kd h t = 7 ∧ ((∃ v114 h115, fX8_resign h t a2 = some (.inl (v114, h115)) ∧ LDp lo h115 ∧ K v114 h115 L) ∨ (∃ h117, fX8_resign h t a2 = some (.inr ("java/lang/IndexOutOfBoundsException", h117)) ∧ LDp lo h117 ∧ ∀ z119, t_sz h117 ≤ z119 → K (-300 : Int32) (s_Z h117 z119) L) ∨ (∃ h120, fX8_resign h t a2 = some (.inr ("java/lang/IllegalArgumentException", h120)) ∧ LDp lo h120 ∧ ∀ z122, t_sz h120 ≤ z122 → K (-200 : Int32) (s_Z h120 z122) L) ∨ (∃ h123, fX8_resign h t a2 = some (.inr ("java/lang/IllegalStateException", h123)) ∧ LDp lo h123 ∧ ∀ z125, t_sz h123 ≤ z125 → K (-100 : Int32) (s_Z h123 z125) L))) else (if a1 = (5 : Int32) then (t_kd h t = 7 ∧ ((∃ v100 h101, fX8_judge h t a2 = some (.inl (v100, h101)) ∧ LDp lo h101 ∧ K v100 h101 L) ∨ (∃ h103, fX8_judge h t a2 = some (.inr ("java/lang/IndexOutOfBoundsException", h103)) ∧ LDp lo h103 ∧ ∀ z105, t_sz h103 ≤ z105 → K (-300 : Int32) (s_Z h103 z105) L) ∨ (∃ h106, fX8_judge h t a2 = some (.inr ("java/lang/IllegalArgumentException", h106)) ∧ LDp lo h106 ∧ ∀ z108, t_sz h106 ≤ z108 → K (-200 : Int32) (s_Z h106 z108) L) ∨ (∃ h109, fX8_judge h t a2 = some (.inr ("java/lang/IllegalStateException", h109)) ∧ LDp lo h109 ∧ ∀ z111, t_sz h109 ≤ z111 → K (-100 : Int32) (s_Z h109 z111) L))) else (if a1 = (6 : Int32) then (t_kd h t = 7 ∧ ((∃ v86 h87, fX8_lesson h t a2 a3 = some (.inl (v86, h87)) ∧ LDp lo h87 ∧ K v86 h87 L) ∨ (∃ h89, fX8_lesson h t a2 a3 = some (.inr ("java/lang/IndexOutOfBoundsException", h89)) ∧ LDp lo h89 ∧ ∀ z91, t_sz h89 ≤ z91 → K (-300 : Int32) (s_Z h89 z91) L) ∨ (∃ h92, fX8_lesson h t a2 a3 = some (.inr ("java/lang/IllegalArgumentException", h92)) ∧ LDp lo h92 ∧ ∀ z94, t_sz h92 ≤ z94 → K (-200 : Int32) (s_Z h92 z94) L) ∨ (∃ h95, fX8_lesson h t a2 a3 = some (.inr ("java/lang/IllegalStateException", h95)) ∧ LDp lo h95 ∧ ∀ z97, t_sz h95 ≤ z97 → K (-100 : Int32) (s_Z h95 z97) L))) else (if a1 = (7 : Int32) then (t_kd h t = 7 ∧ ((∃ v72 h73, fX8_branch h t a2 a3 = some (.inl (v72, h73)) ∧ LDp lo h73 ∧ K v72 h73 L) ∨ (∃ h75, fX8_branch h t a2 a3 = some (.inr ("java/lang/IndexOutOfBoundsException", h75)) ∧ LDp lo h75 ∧ ∀ z77, t_sz h75 ≤ z77 → K (-300 : Int32) (s_Z h75 z77) L) ∨ (∃ h78, fX8_branch h t a2 a3 = some (.inr ("java/lang/IllegalArgumentException", h78)) ∧ LDp lo h78 ∧ ∀ z80, t_sz h78 ≤ z80 → K (-200 : Int32) (s_Z h78 z80) L) ∨ (∃ h81, fX8_branch h t a2 a3 = some (.inr ("java/lang/IllegalStateException", h81)) ∧ LDp lo h81 ∧ ∀ z83, t_sz h81 ≤ z83 → K (-100 : Int32) (s_Z h81 z83) L))) else (if a1 = (8 : Int32) then (t_kd h t = 7 ∧ ((∃ v58 h59, fX8_mark h t a2 a3 a4 = some (.inl (v58, h59)) ∧ LDp lo h59 ∧ K v58 h59 L) ∨ (∃ h61, fX8_mark h t a2 a3 a4 = some (.inr ("java/lang/IndexOutOfBoundsException", h61)) ∧ LDp lo h61 ∧ ∀ z63, t_sz h61 ≤ z63 → K (-300 : Int32) (s_Z h61 z63) L) ∨ (∃ h64, fX8_mark h t a2 a3 a4 = some (.inr ("java/lang/IllegalArgumentException", h64)) ∧ LDp lo h64 ∧ ∀ z66, t_sz h64 ≤ z66 → K (-200 : Int32) (s_Z h64 z66) L) ∨ (∃ h67, fX8_mark h t a2 a3 a4 = some (.inr ("java/lang/IllegalStateException", h67)) ∧ LDp lo h67 ∧ ∀ z69, t_sz h67 ≤ z69 → K (-100 : Int32) (s_Z h67 z69) L))) else (if a1 = (9 : Int32) then (t_kd h t = 7 ∧ ((∃ v44 h45, fX8_merge h t a2 a3 = some (.inl (v44, h45)) ∧ LDp lo h45 ∧ K v44 h45 L) ∨ (∃ h47, fX8_merge h t a2 a3 = some (.inr ("java/lang/IndexOutOfBoundsException", h47)) ∧ LDp lo h47 ∧ ∀ z49, t_sz h47 ≤ z49 → K (-300 : Int32) (s_Z h47 z49) L) ∨ (∃ h50, fX8_merge h t a2 a3 = some (.inr ("java/lang/IllegalArgumentException", h50)) ∧ LDp lo h50 ∧ ∀ z52, t_sz h50 ≤ z52 → K (-200 : Int32) (s_Z h50 z52) L) ∨ (∃ h53, fX8_merge h t a2 a3 = some (.inr ("java/lang/IllegalStateException", h53)) ∧ LDp lo h53 ∧ ∀ z55, t_sz h53 ≤ z55 → K (-100 : Int32) (s_Z h53 z55) L))) else (if a1 = (10 : Int32) then (t_kd h t = 7 ∧ ((∃ v29 h30, fX8_ladder h t a2 a3 a4 = some (.inl (v29, h30)) ∧ LDp lo h30 ∧ (if v29 = false then K (0 : Int32) h30 L else K (1 : Int32) h30 L)) ∨ (∃ h33, fX8_ladder h t a2 a3 a4 = some (.inr ("java/lang/IndexOutOfBoundsException", h33)) ∧ LDp lo h33 ∧ ∀ z35, t_sz h33 ≤ z35 → K (-300 : Int32) (s_Z h33 z35) L) ∨ (∃ h36, fX8_ladder h t a2 a3 a4 = some (.inr ("java/lang/IllegalArgumentException", h36)) ∧ LDp lo h36 ∧ ∀ z38, t_sz h36 ≤ z38 → K (-200 : Int32) (s_Z h36 z38) L) ∨ (∃ h39, fX8_ladder h t a2 a3 a4 = some (.inr ("java/lang/IllegalStateException", h39)) ∧ LDp lo h39 ∧ ∀ z41, t_sz h39 ≤ z41 → K (-100 : Int32) (s_Z h39 z41) L))) else (t_kd h t = 7 ∧ ((∃ v14 h15, fX8_net h t a2 a3 a4 = some (.inl (v14, h15)) ∧ LDp lo h15 ∧ (if v14 = false then K (0 : Int32) h15 L else K (1 : Int32) h15 L)) ∨ (∃ h18, fX8_net h t a2 a3 a4 = some (.inr ("java/lang/IndexOutOfBoundsException", h18)) ∧ LDp lo h18 ∧ ∀ z20, t_sz h18 ≤ z20 → K (-300 : Int32) (s_Z h18 z20) L) ∨ (∃ h21, fX8_net h t a2 a3 a4 = some (.inr ("java/lang/IllegalArgumentException", h21)) ∧ LDp lo h21 ∧ ∀ z23, t_sz h21 ≤ z23 → K (-200 : Int32) (s_Z h21 z23) L) ∨ (∃ h24, fX8_net h t a2 a3 a4 = some (.inr ("java/lang/IllegalStateException", h24)) ∧ LDp lo h24 ∧ ∀ z26, t_sz h24 ≤ z26 → K (-100 : Int32) (s_Z h24 z26) L))))))))))))))
set_option maxHeartbeats 4000000 in
set_option maxRecDepth 100000 in
theorem ctL_does {l : Launch} {g : xG} {lo t Ls : Nat} {xs : Nat → Int32} {K : Int32 → TH → MS → Prop} (hl : l.stackTraces = false) (h : TH) (L : MS) (a1 : Int32) (a2 : Int32) (a3 : Int32) (a4 : Int32) (a5 : Int32) (a6 : Int32) (hD : LDp lo h) (hf : gL_does lo t Ls xs K h L a1 a2 a3 a4 a5 a6) : RTH yL_does ML_does hhL_does rmL_does l g lo [va_rf (some t), .int a1, .int a2, .int a3, .int a4, .int a5, .int a6] (LW g lo h L) K := by
  rw [gL_does] at hf
  refine RTH.of (lv0 := [(0, va_rf (some t)), (1, .int a1), (2, .int a2), (3, .int a3), (4, .int a4), (5, .int a5), (6, .int a6)]) (by decide +kernel) rfl rfl (by simp [lg_sl, cat_q, cat_i, cat_l, cat_r]) (by simp [lv_args, cat_q, cat_i, cat_l, cat_r]) hl ?_
  have hc : 0 + 125 ≤ 125 ∧ 0 + 750 ≤ 750 := ⟨by omega, by omega⟩
  refine ag_iload_n 1 dL_does_0 rfl ?_
  refine ag_if_ne 12 dL_does_1 (by decide) (fun c1 => ?_) (fun c1 => ?_)
  · rw [if_neg c1] at hf
    refine ag_iload_n 1 dL_does_12 rfl ?_
    refine ag_iconst (1 : Int32) dL_does_13 (by decide) ?_
    refine ag_icmp_ne 32 dL_does_14 (by decide) (fun c2 => ?_) (fun c2 => ?_)
    · rw [if_neg c2] at hf
      refine ag_iload_n 1 dL_does_32 rfl ?_
      refine ag_iconst (2 : Int32) dL_does_33 (by decide) ?_
      refine ag_icmp_ne 48 dL_does_34 (by decide) (fun c3 => ?_) (fun c3 => ?_)
      · rw [if_neg c3] at hf
        refine ag_iload_n 1 dL_does_48 rfl ?_
        refine ag_iconst (3 : Int32) dL_does_49 (by decide) ?_
        refine ag_icmp_ne 62 dL_does_50 (by decide) (fun c4 => ?_) (fun c4 => ?_)
        · rw [if_neg c4] at hf
          refine ag_iload_n 1 dL_does_62 rfl ?_
          refine ag_iconst (4 : Int32) dL_does_63 (by decide) ?_
          refine ag_icmp_ne 75 dL_does_64 (by decide) (fun c5 => ?_) (fun c5 => ?_)
          · rw [if_neg c5] at hf
            refine ag_iload_n 1 dL_does_75 rfl ?_
            refine ag_iconst (5 : Int32) dL_does_76 (by decide) ?_
            refine ag_icmp_ne 88 dL_does_77 (by decide) (fun c6 => ?_) (fun c6 => ?_)
            · rw [if_neg c6] at hf
              refine ag_iload_n 1 dL_does_88 rfl ?_
              refine ag_bipush (6 : Int32) dL_does_89 (by decide) ?_
              refine ag_icmp_ne 103 dL_does_91 (by decide) (fun c7 => ?_) (fun c7 => ?_)
              · rw [if_neg c7] at hf
                refine ag_iload_n 1 dL_does_103 rfl ?_
                refine ag_bipush (7 : Int32) dL_does_104 (by decide) ?_
                refine ag_icmp_ne 118 dL_does_106 (by decide) (fun c8 => ?_) (fun c8 => ?_)
                · rw [if_neg c8] at hf
                  refine ag_iload_n 1 dL_does_118 rfl ?_
                  refine ag_bipush (8 : Int32) dL_does_119 (by decide) ?_
                  refine ag_icmp_ne 135 dL_does_121 (by decide) (fun c9 => ?_) (fun c9 => ?_)
                  · rw [if_neg c9] at hf
                    refine ag_iload_n 1 dL_does_135 rfl ?_
                    refine ag_bipush (9 : Int32) dL_does_136 (by decide) ?_
                    refine ag_icmp_ne 150 dL_does_138 (by decide) (fun c10 => ?_) (fun c10 => ?_)
                    · rw [if_neg c10] at hf
                      refine ag_iload_n 1 dL_does_150 rfl ?_
                      refine ag_bipush (10 : Int32) dL_does_151 (by decide) ?_
                      refine ag_icmp_ne 175 dL_does_153 (by decide) (fun c11 => ?_) (fun c11 => ?_)
                      · rw [if_neg c11] at hf
                        refine ag_qload_n 0 dL_does_175 rfl ?_
                        refine ag_iload_n 2 dL_does_176 rfl ?_
                        refine ag_iload_n 3 dL_does_177 rfl ?_
                        refine ag_iload 4 dL_does_178 rfl ?_
                        obtain ⟨hk_12, hf⟩ := hf
                        rcases hf with ⟨v14, h15, q13, hD16, hf⟩ | ⟨h18, q13, hD19, hf⟩ | ⟨h21, q13, hD22, hf⟩ | ⟨h24, q13, hD25, hf⟩
                        · refine ag_callV 6 (some t) [.int a2, .int a3, .int a4] 3 rfl (LW_ob hk_12) rfl rfl (ctC hD (ctX8_net hl h _ _ _ _ q13)) ⟨wl3 (i := 191) rfl rfl, ciX8_net.1, ciX8_net.2.1, ciX8_net.2.2⟩ (wl3 (i := 192) rfl rfl) (wl3 (i := 193) rfl rfl) dL_does_180 rfl rfl (Nat.le_of_ble_eq_true rfl) ⟨Nat.le_of_ble_eq_true rfl, Nat.le_of_ble_eq_true rfl⟩ ⟨show 0 + 3 ≤ 125 by omega, show 0 + 18 ≤ 750 by omega⟩ (fun _ => ?_)
                          refine ag_ifb_eq 190 dL_does_183 (by decide) (fun c17 => ?_) (fun c17 => ?_)
                          · rw [if_pos c17] at hf
                            refine ag_iconst (0 : Int32) dL_does_190 (by decide) ?_
                            exact agr_iretH hD16 hf dL_does_191 rfl ⟨show 0 + 3 + 0 ≤ 125 by omega, show 0 + 18 + 0 ≤ 750 by omega⟩
                          · rw [if_neg c17] at hf
                            refine ag_iconst (1 : Int32) dL_does_186 (by decide) ?_
                            refine ag_goto 191 dL_does_187 (by decide) ?_
                            exact agr_iretH hD16 hf dL_does_191 rfl ⟨show 0 + 3 + 0 ≤ 125 by omega, show 0 + 18 + 0 ≤ 750 by omega⟩
                        · refine agw_catch (hh := hhL_does) 6 (some t) [.int a2, .int a3, .int a4] 3 [] ⟨0, 191, 192, 51⟩ [⟨0, 191, 198, 53⟩, ⟨0, 191, 204, 55⟩] rfl (fun w hw => by cases hw) (by decide) (by decide) (wl1 (i := 132) rfl rfl) (wm2 (i := 4) rfl) rfl (LW_ob hk_12) rfl rfl (ctC hD (ctX8_net hl h _ _ _ _ q13)) ⟨wl3 (i := 191) rfl rfl, ciX8_net.1, ciX8_net.2.1, ciX8_net.2.2⟩ (wl3 (i := 192) rfl rfl) (wl3 (i := 193) rfl rfl) dL_does_180 rfl rfl (Nat.le_of_ble_eq_true rfl) ⟨Nat.le_of_ble_eq_true rfl, Nat.le_of_ble_eq_true rfl⟩ ⟨show 0 + 3 ≤ 125 by omega, show 0 + 18 ≤ 750 by omega⟩ (fun z20 bx hz_ _ => ?_)
                          replace hf := hf z20 hz_
                          show AWG (xXw hhL_does) (zRH rmL_does g lo (LW g lo h L) K) ML_does rmL_does l g (LW g lo h L) (0 + 3) (0 + 18) (LW g lo (s_Z h18 z20) L) 192 [(0, va_rf (some t)), (1, .int a1), (2, .int a2), (3, .int a3), (4, .int a4), (5, .int a5), (6, .int a6)] [.ref bx]
                          refine ag_qstore [(7, va_rf (some bx)), (0, va_rf (some t)), (1, .int a1), (2, .int a2), (3, .int a3), (4, .int a4), (5, .int a5), (6, .int a6)] (r := (some bx)) dL_does_192 (by decide) rfl ?_
                          refine ag_sipush (-300 : Int32) dL_does_194 (by decide) ?_
                          exact agr_iretH (hD19.Z hz_) hf dL_does_197 rfl ⟨show 0 + 3 + 0 ≤ 125 by omega, show 0 + 18 + 0 ≤ 750 by omega⟩
                        · refine agw_catch (hh := hhL_does) 6 (some t) [.int a2, .int a3, .int a4] 3 [⟨0, 191, 192, 51⟩] ⟨0, 191, 198, 53⟩ [⟨0, 191, 204, 55⟩] rfl (fun w hw => by simp only [List.mem_cons, List.not_mem_nil, or_false] at hw; subst hw; exact ⟨by decide, "java/lang/IndexOutOfBoundsException", wl1 (i := 132) rfl rfl, by decide⟩) (by decide) (by decide) (wl1 (i := 133) rfl rfl) (wm1 (i := 144) rfl) rfl (LW_ob hk_12) rfl rfl (ctC hD (ctX8_net hl h _ _ _ _ q13)) ⟨wl3 (i := 191) rfl rfl, ciX8_net.1, ciX8_net.2.1, ciX8_net.2.2⟩ (wl3 (i := 192) rfl rfl) (wl3 (i := 193) rfl rfl) dL_does_180 rfl rfl (Nat.le_of_ble_eq_true rfl) ⟨Nat.le_of_ble_eq_true rfl, Nat.le_of_ble_eq_true rfl⟩ ⟨show 0 + 3 ≤ 125 by omega, show 0 + 18 ≤ 750 by omega⟩ (fun z23 bx hz_ _ => ?_)
                          replace hf := hf z23 hz_
                          show AWG (xXw hhL_does) (zRH rmL_does g lo (LW g lo h L) K) ML_does rmL_does l g (LW g lo h L) (0 + 3) (0 + 18) (LW g lo (s_Z h21 z23) L) 198 [(0, va_rf (some t)), (1, .int a1), (2, .int a2), (3, .int a3), (4, .int a4), (5, .int a5), (6, .int a6)] [.ref bx]
                          refine ag_qstore [(7, va_rf (some bx)), (0, va_rf (some t)), (1, .int a1), (2, .int a2), (3, .int a3), (4, .int a4), (5, .int a5), (6, .int a6)] (r := (some bx)) dL_does_198 (by decide) rfl ?_
                          refine ag_sipush (-200 : Int32) dL_does_200 (by decide) ?_
                          exact agr_iretH (hD22.Z hz_) hf dL_does_203 rfl ⟨show 0 + 3 + 0 ≤ 125 by omega, show 0 + 18 + 0 ≤ 750 by omega⟩
                        · refine agw_catch (hh := hhL_does) 6 (some t) [.int a2, .int a3, .int a4] 3 [⟨0, 191, 192, 51⟩, ⟨0, 191, 198, 53⟩] ⟨0, 191, 204, 55⟩ [] rfl (fun w hw => by simp only [List.mem_cons, List.not_mem_nil, or_false] at hw; rcases hw with rfl | rfl; exact ⟨by decide, "java/lang/IndexOutOfBoundsException", wl1 (i := 132) rfl rfl, by decide⟩; exact ⟨by decide, "java/lang/IllegalArgumentException", wl1 (i := 133) rfl rfl, by decide⟩) (by decide) (by decide) (wl1 (i := 134) rfl rfl) (wm1 (i := 216) rfl) rfl (LW_ob hk_12) rfl rfl (ctC hD (ctX8_net hl h _ _ _ _ q13)) ⟨wl3 (i := 191) rfl rfl, ciX8_net.1, ciX8_net.2.1, ciX8_net.2.2⟩ (wl3 (i := 192) rfl rfl) (wl3 (i := 193) rfl rfl) dL_does_180 rfl rfl (Nat.le_of_ble_eq_true rfl) ⟨Nat.le_of_ble_eq_true rfl, Nat.le_of_ble_eq_true rfl⟩ ⟨show 0 + 3 ≤ 125 by omega, show 0 + 18 ≤ 750 by omega⟩ (fun z26 bx hz_ _ => ?_)
                          replace hf := hf z26 hz_
                          show AWG (xXw hhL_does) (zRH rmL_does g lo (LW g lo h L) K) ML_does rmL_does l g (LW g lo h L) (0 + 3) (0 + 18) (LW g lo (s_Z h24 z26) L) 204 [(0, va_rf (some t)), (1, .int a1), (2, .int a2), (3, .int a3), (4, .int a4), (5, .int a5), (6, .int a6)] [.ref bx]
                          refine ag_qstore [(7, va_rf (some bx)), (0, va_rf (some t)), (1, .int a1), (2, .int a2), (3, .int a3), (4, .int a4), (5, .int a5), (6, .int a6)] (r := (some bx)) dL_does_204 (by decide) rfl ?_
                          refine ag_bipush (-100 : Int32) dL_does_206 (by decide) ?_
                          exact agr_iretH (hD25.Z hz_) hf dL_does_208 rfl ⟨show 0 + 3 + 0 ≤ 125 by omega, show 0 + 18 + 0 ≤ 750 by omega⟩
                      · rw [if_pos c11] at hf
                        refine ag_qload_n 0 dL_does_156 rfl ?_
                        refine ag_iload_n 2 dL_does_157 rfl ?_
                        refine ag_iload_n 3 dL_does_158 rfl ?_
                        refine ag_iload 4 dL_does_159 rfl ?_
                        obtain ⟨hk_27, hf⟩ := hf
                        rcases hf with ⟨v29, h30, q28, hD31, hf⟩ | ⟨h33, q28, hD34, hf⟩ | ⟨h36, q28, hD37, hf⟩ | ⟨h39, q28, hD40, hf⟩
                        · refine ag_callV 6 (some t) [.int a2, .int a3, .int a4] 3 rfl (LW_ob hk_27) rfl rfl (ctC hD (ctX8_ladder hl h _ _ _ _ q28)) ⟨wl3 (i := 164) rfl rfl, ciX8_ladder.1, ciX8_ladder.2.1, ciX8_ladder.2.2⟩ (wl3 (i := 165) rfl rfl) (wl3 (i := 166) rfl rfl) dL_does_161 rfl rfl (Nat.le_of_ble_eq_true rfl) ⟨Nat.le_of_ble_eq_true rfl, Nat.le_of_ble_eq_true rfl⟩ ⟨show 0 + 3 ≤ 125 by omega, show 0 + 18 ≤ 750 by omega⟩ (fun _ => ?_)
                          refine ag_ifb_eq 171 dL_does_164 (by decide) (fun c32 => ?_) (fun c32 => ?_)
                          · rw [if_pos c32] at hf
                            refine ag_iconst (0 : Int32) dL_does_171 (by decide) ?_
                            refine ag_goto 191 dL_does_172 (by decide) ?_
                            exact agr_iretH hD31 hf dL_does_191 rfl ⟨show 0 + 3 + 0 ≤ 125 by omega, show 0 + 18 + 0 ≤ 750 by omega⟩
                          · rw [if_neg c32] at hf
                            refine ag_iconst (1 : Int32) dL_does_167 (by decide) ?_
                            refine ag_goto 191 dL_does_168 (by decide) ?_
                            exact agr_iretH hD31 hf dL_does_191 rfl ⟨show 0 + 3 + 0 ≤ 125 by omega, show 0 + 18 + 0 ≤ 750 by omega⟩
                        · refine agw_catch (hh := hhL_does) 6 (some t) [.int a2, .int a3, .int a4] 3 [] ⟨0, 191, 192, 51⟩ [⟨0, 191, 198, 53⟩, ⟨0, 191, 204, 55⟩] rfl (fun w hw => by cases hw) (by decide) (by decide) (wl1 (i := 132) rfl rfl) (wm2 (i := 4) rfl) rfl (LW_ob hk_27) rfl rfl (ctC hD (ctX8_ladder hl h _ _ _ _ q28)) ⟨wl3 (i := 164) rfl rfl, ciX8_ladder.1, ciX8_ladder.2.1, ciX8_ladder.2.2⟩ (wl3 (i := 165) rfl rfl) (wl3 (i := 166) rfl rfl) dL_does_161 rfl rfl (Nat.le_of_ble_eq_true rfl) ⟨Nat.le_of_ble_eq_true rfl, Nat.le_of_ble_eq_true rfl⟩ ⟨show 0 + 3 ≤ 125 by omega, show 0 + 18 ≤ 750 by omega⟩ (fun z35 bx hz_ _ => ?_)
                          replace hf := hf z35 hz_
                          show AWG (xXw hhL_does) (zRH rmL_does g lo (LW g lo h L) K) ML_does rmL_does l g (LW g lo h L) (0 + 3) (0 + 18) (LW g lo (s_Z h33 z35) L) 192 [(0, va_rf (some t)), (1, .int a1), (2, .int a2), (3, .int a3), (4, .int a4), (5, .int a5), (6, .int a6)] [.ref bx]
                          refine ag_qstore [(7, va_rf (some bx)), (0, va_rf (some t)), (1, .int a1), (2, .int a2), (3, .int a3), (4, .int a4), (5, .int a5), (6, .int a6)] (r := (some bx)) dL_does_192 (by decide) rfl ?_
                          refine ag_sipush (-300 : Int32) dL_does_194 (by decide) ?_
                          exact agr_iretH (hD34.Z hz_) hf dL_does_197 rfl ⟨show 0 + 3 + 0 ≤ 125 by omega, show 0 + 18 + 0 ≤ 750 by omega⟩
                        · refine agw_catch (hh := hhL_does) 6 (some t) [.int a2, .int a3, .int a4] 3 [⟨0, 191, 192, 51⟩] ⟨0, 191, 198, 53⟩ [⟨0, 191, 204, 55⟩] rfl (fun w hw => by simp only [List.mem_cons, List.not_mem_nil, or_false] at hw; subst hw; exact ⟨by decide, "java/lang/IndexOutOfBoundsException", wl1 (i := 132) rfl rfl, by decide⟩) (by decide) (by decide) (wl1 (i := 133) rfl rfl) (wm1 (i := 144) rfl) rfl (LW_ob hk_27) rfl rfl (ctC hD (ctX8_ladder hl h _ _ _ _ q28)) ⟨wl3 (i := 164) rfl rfl, ciX8_ladder.1, ciX8_ladder.2.1, ciX8_ladder.2.2⟩ (wl3 (i := 165) rfl rfl) (wl3 (i := 166) rfl rfl) dL_does_161 rfl rfl (Nat.le_of_ble_eq_true rfl) ⟨Nat.le_of_ble_eq_true rfl, Nat.le_of_ble_eq_true rfl⟩ ⟨show 0 + 3 ≤ 125 by omega, show 0 + 18 ≤ 750 by omega⟩ (fun z38 bx hz_ _ => ?_)
                          replace hf := hf z38 hz_
                          show AWG (xXw hhL_does) (zRH rmL_does g lo (LW g lo h L) K) ML_does rmL_does l g (LW g lo h L) (0 + 3) (0 + 18) (LW g lo (s_Z h36 z38) L) 198 [(0, va_rf (some t)), (1, .int a1), (2, .int a2), (3, .int a3), (4, .int a4), (5, .int a5), (6, .int a6)] [.ref bx]
                          refine ag_qstore [(7, va_rf (some bx)), (0, va_rf (some t)), (1, .int a1), (2, .int a2), (3, .int a3), (4, .int a4), (5, .int a5), (6, .int a6)] (r := (some bx)) dL_does_198 (by decide) rfl ?_
                          refine ag_sipush (-200 : Int32) dL_does_200 (by decide) ?_
                          exact agr_iretH (hD37.Z hz_) hf dL_does_203 rfl ⟨show 0 + 3 + 0 ≤ 125 by omega, show 0 + 18 + 0 ≤ 750 by omega⟩
                        · refine agw_catch (hh := hhL_does) 6 (some t) [.int a2, .int a3, .int a4] 3 [⟨0, 191, 192, 51⟩, ⟨0, 191, 198, 53⟩] ⟨0, 191, 204, 55⟩ [] rfl (fun w hw => by simp only [List.mem_cons, List.not_mem_nil, or_false] at hw; rcases hw with rfl | rfl; exact ⟨by decide, "java/lang/IndexOutOfBoundsException", wl1 (i := 132) rfl rfl, by decide⟩; exact ⟨by decide, "java/lang/IllegalArgumentException", wl1 (i := 133) rfl rfl, by decide⟩) (by decide) (by decide) (wl1 (i := 134) rfl rfl) (wm1 (i := 216) rfl) rfl (LW_ob hk_27) rfl rfl (ctC hD (ctX8_ladder hl h _ _ _ _ q28)) ⟨wl3 (i := 164) rfl rfl, ciX8_ladder.1, ciX8_ladder.2.1, ciX8_ladder.2.2⟩ (wl3 (i := 165) rfl rfl) (wl3 (i := 166) rfl rfl) dL_does_161 rfl rfl (Nat.le_of_ble_eq_true rfl) ⟨Nat.le_of_ble_eq_true rfl, Nat.le_of_ble_eq_true rfl⟩ ⟨show 0 + 3 ≤ 125 by omega, show 0 + 18 ≤ 750 by omega⟩ (fun z41 bx hz_ _ => ?_)
                          replace hf := hf z41 hz_
                          show AWG (xXw hhL_does) (zRH rmL_does g lo (LW g lo h L) K) ML_does rmL_does l g (LW g lo h L) (0 + 3) (0 + 18) (LW g lo (s_Z h39 z41) L) 204 [(0, va_rf (some t)), (1, .int a1), (2, .int a2), (3, .int a3), (4, .int a4), (5, .int a5), (6, .int a6)] [.ref bx]
                          refine ag_qstore [(7, va_rf (some bx)), (0, va_rf (some t)), (1, .int a1), (2, .int a2), (3, .int a3), (4, .int a4), (5, .int a5), (6, .int a6)] (r := (some bx)) dL_does_204 (by decide) rfl ?_
                          refine ag_bipush (-100 : Int32) dL_does_206 (by decide) ?_
                          exact agr_iretH (hD40.Z hz_) hf dL_does_208 rfl ⟨show 0 + 3 + 0 ≤ 125 by omega, show 0 + 18 + 0 ≤ 750 by omega⟩
                    · rw [if_pos c10] at hf
                      refine ag_qload_n 0 dL_does_141 rfl ?_
                      refine ag_iload_n 2 dL_does_142 rfl ?_
                      refine ag_iload_n 3 dL_does_143 rfl ?_
                      obtain ⟨hk_42, hf⟩ := hf
                      rcases hf with ⟨v44, h45, q43, hD46, hf⟩ | ⟨h47, q43, hD48, hf⟩ | ⟨h50, q43, hD51, hf⟩ | ⟨h53, q43, hD54, hf⟩
                      · refine ag_callV 6 (some t) [.int a2, .int a3] 2 rfl (LW_ob hk_42) rfl rfl (ctC hD (ctX8_merge hl h _ _ _ q43)) ⟨wl3 (i := 130) rfl rfl, ciX8_merge.1, ciX8_merge.2.1, ciX8_merge.2.2⟩ (wl3 (i := 131) rfl rfl) (wl3 (i := 132) rfl rfl) dL_does_144 rfl rfl (Nat.le_of_ble_eq_true rfl) ⟨Nat.le_of_ble_eq_true rfl, Nat.le_of_ble_eq_true rfl⟩ ⟨show 0 + 125 ≤ 125 by omega, show 0 + 750 ≤ 750 by omega⟩ (fun _ => ?_)
                        refine ag_goto 191 dL_does_147 (by decide) ?_
                        exact agr_iretH hD46 hf dL_does_191 rfl ⟨show 0 + 125 + 0 ≤ 125 by omega, show 0 + 750 + 0 ≤ 750 by omega⟩
                      · refine agw_catch (hh := hhL_does) 6 (some t) [.int a2, .int a3] 2 [] ⟨0, 191, 192, 51⟩ [⟨0, 191, 198, 53⟩, ⟨0, 191, 204, 55⟩] rfl (fun w hw => by cases hw) (by decide) (by decide) (wl1 (i := 132) rfl rfl) (wm2 (i := 4) rfl) rfl (LW_ob hk_42) rfl rfl (ctC hD (ctX8_merge hl h _ _ _ q43)) ⟨wl3 (i := 130) rfl rfl, ciX8_merge.1, ciX8_merge.2.1, ciX8_merge.2.2⟩ (wl3 (i := 131) rfl rfl) (wl3 (i := 132) rfl rfl) dL_does_144 rfl rfl (Nat.le_of_ble_eq_true rfl) ⟨Nat.le_of_ble_eq_true rfl, Nat.le_of_ble_eq_true rfl⟩ ⟨show 0 + 125 ≤ 125 by omega, show 0 + 750 ≤ 750 by omega⟩ (fun z49 bx hz_ _ => ?_)
                        replace hf := hf z49 hz_
                        show AWG (xXw hhL_does) (zRH rmL_does g lo (LW g lo h L) K) ML_does rmL_does l g (LW g lo h L) (0 + 125) (0 + 750) (LW g lo (s_Z h47 z49) L) 192 [(0, va_rf (some t)), (1, .int a1), (2, .int a2), (3, .int a3), (4, .int a4), (5, .int a5), (6, .int a6)] [.ref bx]
                        refine ag_qstore [(7, va_rf (some bx)), (0, va_rf (some t)), (1, .int a1), (2, .int a2), (3, .int a3), (4, .int a4), (5, .int a5), (6, .int a6)] (r := (some bx)) dL_does_192 (by decide) rfl ?_
                        refine ag_sipush (-300 : Int32) dL_does_194 (by decide) ?_
                        exact agr_iretH (hD48.Z hz_) hf dL_does_197 rfl ⟨show 0 + 125 + 0 ≤ 125 by omega, show 0 + 750 + 0 ≤ 750 by omega⟩
                      · refine agw_catch (hh := hhL_does) 6 (some t) [.int a2, .int a3] 2 [⟨0, 191, 192, 51⟩] ⟨0, 191, 198, 53⟩ [⟨0, 191, 204, 55⟩] rfl (fun w hw => by simp only [List.mem_cons, List.not_mem_nil, or_false] at hw; subst hw; exact ⟨by decide, "java/lang/IndexOutOfBoundsException", wl1 (i := 132) rfl rfl, by decide⟩) (by decide) (by decide) (wl1 (i := 133) rfl rfl) (wm1 (i := 144) rfl) rfl (LW_ob hk_42) rfl rfl (ctC hD (ctX8_merge hl h _ _ _ q43)) ⟨wl3 (i := 130) rfl rfl, ciX8_merge.1, ciX8_merge.2.1, ciX8_merge.2.2⟩ (wl3 (i := 131) rfl rfl) (wl3 (i := 132) rfl rfl) dL_does_144 rfl rfl (Nat.le_of_ble_eq_true rfl) ⟨Nat.le_of_ble_eq_true rfl, Nat.le_of_ble_eq_true rfl⟩ ⟨show 0 + 125 ≤ 125 by omega, show 0 + 750 ≤ 750 by omega⟩ (fun z52 bx hz_ _ => ?_)
                        replace hf := hf z52 hz_
                        show AWG (xXw hhL_does) (zRH rmL_does g lo (LW g lo h L) K) ML_does rmL_does l g (LW g lo h L) (0 + 125) (0 + 750) (LW g lo (s_Z h50 z52) L) 198 [(0, va_rf (some t)), (1, .int a1), (2, .int a2), (3, .int a3), (4, .int a4), (5, .int a5), (6, .int a6)] [.ref bx]
                        refine ag_qstore [(7, va_rf (some bx)), (0, va_rf (some t)), (1, .int a1), (2, .int a2), (3, .int a3), (4, .int a4), (5, .int a5), (6, .int a6)] (r := (some bx)) dL_does_198 (by decide) rfl ?_
                        refine ag_sipush (-200 : Int32) dL_does_200 (by decide) ?_
                        exact agr_iretH (hD51.Z hz_) hf dL_does_203 rfl ⟨show 0 + 125 + 0 ≤ 125 by omega, show 0 + 750 + 0 ≤ 750 by omega⟩
                      · refine agw_catch (hh := hhL_does) 6 (some t) [.int a2, .int a3] 2 [⟨0, 191, 192, 51⟩, ⟨0, 191, 198, 53⟩] ⟨0, 191, 204, 55⟩ [] rfl (fun w hw => by simp only [List.mem_cons, List.not_mem_nil, or_false] at hw; rcases hw with rfl | rfl; exact ⟨by decide, "java/lang/IndexOutOfBoundsException", wl1 (i := 132) rfl rfl, by decide⟩; exact ⟨by decide, "java/lang/IllegalArgumentException", wl1 (i := 133) rfl rfl, by decide⟩) (by decide) (by decide) (wl1 (i := 134) rfl rfl) (wm1 (i := 216) rfl) rfl (LW_ob hk_42) rfl rfl (ctC hD (ctX8_merge hl h _ _ _ q43)) ⟨wl3 (i := 130) rfl rfl, ciX8_merge.1, ciX8_merge.2.1, ciX8_merge.2.2⟩ (wl3 (i := 131) rfl rfl) (wl3 (i := 132) rfl rfl) dL_does_144 rfl rfl (Nat.le_of_ble_eq_true rfl) ⟨Nat.le_of_ble_eq_true rfl, Nat.le_of_ble_eq_true rfl⟩ ⟨show 0 + 125 ≤ 125 by omega, show 0 + 750 ≤ 750 by omega⟩ (fun z55 bx hz_ _ => ?_)
                        replace hf := hf z55 hz_
                        show AWG (xXw hhL_does) (zRH rmL_does g lo (LW g lo h L) K) ML_does rmL_does l g (LW g lo h L) (0 + 125) (0 + 750) (LW g lo (s_Z h53 z55) L) 204 [(0, va_rf (some t)), (1, .int a1), (2, .int a2), (3, .int a3), (4, .int a4), (5, .int a5), (6, .int a6)] [.ref bx]
                        refine ag_qstore [(7, va_rf (some bx)), (0, va_rf (some t)), (1, .int a1), (2, .int a2), (3, .int a3), (4, .int a4), (5, .int a5), (6, .int a6)] (r := (some bx)) dL_does_204 (by decide) rfl ?_
                        refine ag_bipush (-100 : Int32) dL_does_206 (by decide) ?_
                        exact agr_iretH (hD54.Z hz_) hf dL_does_208 rfl ⟨show 0 + 125 + 0 ≤ 125 by omega, show 0 + 750 + 0 ≤ 750 by omega⟩
                  · rw [if_pos c9] at hf
                    refine ag_qload_n 0 dL_does_124 rfl ?_
                    refine ag_iload_n 2 dL_does_125 rfl ?_
                    refine ag_iload_n 3 dL_does_126 rfl ?_
                    refine ag_iload 4 dL_does_127 rfl ?_
                    obtain ⟨hk_56, hf⟩ := hf
                    rcases hf with ⟨v58, h59, q57, hD60, hf⟩ | ⟨h61, q57, hD62, hf⟩ | ⟨h64, q57, hD65, hf⟩ | ⟨h67, q57, hD68, hf⟩
                    · refine ag_callV 6 (some t) [.int a2, .int a3, .int a4] 3 rfl (LW_ob hk_56) rfl rfl (ctC hD (ctX8_mark hl h _ _ _ _ q57)) ⟨wl3 (i := 121) rfl rfl, ciX8_mark.1, ciX8_mark.2.1, ciX8_mark.2.2⟩ (wl3 (i := 122) rfl rfl) (wl3 (i := 123) rfl rfl) dL_does_129 rfl rfl (Nat.le_of_ble_eq_true rfl) ⟨Nat.le_of_ble_eq_true rfl, Nat.le_of_ble_eq_true rfl⟩ ⟨show 0 + 2 ≤ 125 by omega, show 0 + 12 ≤ 750 by omega⟩ (fun _ => ?_)
                      refine ag_goto 191 dL_does_132 (by decide) ?_
                      exact agr_iretH hD60 hf dL_does_191 rfl ⟨show 0 + 2 + 0 ≤ 125 by omega, show 0 + 12 + 0 ≤ 750 by omega⟩
                    · refine agw_catch (hh := hhL_does) 6 (some t) [.int a2, .int a3, .int a4] 3 [] ⟨0, 191, 192, 51⟩ [⟨0, 191, 198, 53⟩, ⟨0, 191, 204, 55⟩] rfl (fun w hw => by cases hw) (by decide) (by decide) (wl1 (i := 132) rfl rfl) (wm2 (i := 4) rfl) rfl (LW_ob hk_56) rfl rfl (ctC hD (ctX8_mark hl h _ _ _ _ q57)) ⟨wl3 (i := 121) rfl rfl, ciX8_mark.1, ciX8_mark.2.1, ciX8_mark.2.2⟩ (wl3 (i := 122) rfl rfl) (wl3 (i := 123) rfl rfl) dL_does_129 rfl rfl (Nat.le_of_ble_eq_true rfl) ⟨Nat.le_of_ble_eq_true rfl, Nat.le_of_ble_eq_true rfl⟩ ⟨show 0 + 2 ≤ 125 by omega, show 0 + 12 ≤ 750 by omega⟩ (fun z63 bx hz_ _ => ?_)
                      replace hf := hf z63 hz_
                      show AWG (xXw hhL_does) (zRH rmL_does g lo (LW g lo h L) K) ML_does rmL_does l g (LW g lo h L) (0 + 2) (0 + 12) (LW g lo (s_Z h61 z63) L) 192 [(0, va_rf (some t)), (1, .int a1), (2, .int a2), (3, .int a3), (4, .int a4), (5, .int a5), (6, .int a6)] [.ref bx]
                      refine ag_qstore [(7, va_rf (some bx)), (0, va_rf (some t)), (1, .int a1), (2, .int a2), (3, .int a3), (4, .int a4), (5, .int a5), (6, .int a6)] (r := (some bx)) dL_does_192 (by decide) rfl ?_
                      refine ag_sipush (-300 : Int32) dL_does_194 (by decide) ?_
                      exact agr_iretH (hD62.Z hz_) hf dL_does_197 rfl ⟨show 0 + 2 + 0 ≤ 125 by omega, show 0 + 12 + 0 ≤ 750 by omega⟩
                    · refine agw_catch (hh := hhL_does) 6 (some t) [.int a2, .int a3, .int a4] 3 [⟨0, 191, 192, 51⟩] ⟨0, 191, 198, 53⟩ [⟨0, 191, 204, 55⟩] rfl (fun w hw => by simp only [List.mem_cons, List.not_mem_nil, or_false] at hw; subst hw; exact ⟨by decide, "java/lang/IndexOutOfBoundsException", wl1 (i := 132) rfl rfl, by decide⟩) (by decide) (by decide) (wl1 (i := 133) rfl rfl) (wm1 (i := 144) rfl) rfl (LW_ob hk_56) rfl rfl (ctC hD (ctX8_mark hl h _ _ _ _ q57)) ⟨wl3 (i := 121) rfl rfl, ciX8_mark.1, ciX8_mark.2.1, ciX8_mark.2.2⟩ (wl3 (i := 122) rfl rfl) (wl3 (i := 123) rfl rfl) dL_does_129 rfl rfl (Nat.le_of_ble_eq_true rfl) ⟨Nat.le_of_ble_eq_true rfl, Nat.le_of_ble_eq_true rfl⟩ ⟨show 0 + 2 ≤ 125 by omega, show 0 + 12 ≤ 750 by omega⟩ (fun z66 bx hz_ _ => ?_)
                      replace hf := hf z66 hz_
                      show AWG (xXw hhL_does) (zRH rmL_does g lo (LW g lo h L) K) ML_does rmL_does l g (LW g lo h L) (0 + 2) (0 + 12) (LW g lo (s_Z h64 z66) L) 198 [(0, va_rf (some t)), (1, .int a1), (2, .int a2), (3, .int a3), (4, .int a4), (5, .int a5), (6, .int a6)] [.ref bx]
                      refine ag_qstore [(7, va_rf (some bx)), (0, va_rf (some t)), (1, .int a1), (2, .int a2), (3, .int a3), (4, .int a4), (5, .int a5), (6, .int a6)] (r := (some bx)) dL_does_198 (by decide) rfl ?_
                      refine ag_sipush (-200 : Int32) dL_does_200 (by decide) ?_
                      exact agr_iretH (hD65.Z hz_) hf dL_does_203 rfl ⟨show 0 + 2 + 0 ≤ 125 by omega, show 0 + 12 + 0 ≤ 750 by omega⟩
                    · refine agw_catch (hh := hhL_does) 6 (some t) [.int a2, .int a3, .int a4] 3 [⟨0, 191, 192, 51⟩, ⟨0, 191, 198, 53⟩] ⟨0, 191, 204, 55⟩ [] rfl (fun w hw => by simp only [List.mem_cons, List.not_mem_nil, or_false] at hw; rcases hw with rfl | rfl; exact ⟨by decide, "java/lang/IndexOutOfBoundsException", wl1 (i := 132) rfl rfl, by decide⟩; exact ⟨by decide, "java/lang/IllegalArgumentException", wl1 (i := 133) rfl rfl, by decide⟩) (by decide) (by decide) (wl1 (i := 134) rfl rfl) (wm1 (i := 216) rfl) rfl (LW_ob hk_56) rfl rfl (ctC hD (ctX8_mark hl h _ _ _ _ q57)) ⟨wl3 (i := 121) rfl rfl, ciX8_mark.1, ciX8_mark.2.1, ciX8_mark.2.2⟩ (wl3 (i := 122) rfl rfl) (wl3 (i := 123) rfl rfl) dL_does_129 rfl rfl (Nat.le_of_ble_eq_true rfl) ⟨Nat.le_of_ble_eq_true rfl, Nat.le_of_ble_eq_true rfl⟩ ⟨show 0 + 2 ≤ 125 by omega, show 0 + 12 ≤ 750 by omega⟩ (fun z69 bx hz_ _ => ?_)
                      replace hf := hf z69 hz_
                      show AWG (xXw hhL_does) (zRH rmL_does g lo (LW g lo h L) K) ML_does rmL_does l g (LW g lo h L) (0 + 2) (0 + 12) (LW g lo (s_Z h67 z69) L) 204 [(0, va_rf (some t)), (1, .int a1), (2, .int a2), (3, .int a3), (4, .int a4), (5, .int a5), (6, .int a6)] [.ref bx]
                      refine ag_qstore [(7, va_rf (some bx)), (0, va_rf (some t)), (1, .int a1), (2, .int a2), (3, .int a3), (4, .int a4), (5, .int a5), (6, .int a6)] (r := (some bx)) dL_does_204 (by decide) rfl ?_
                      refine ag_bipush (-100 : Int32) dL_does_206 (by decide) ?_
                      exact agr_iretH (hD68.Z hz_) hf dL_does_208 rfl ⟨show 0 + 2 + 0 ≤ 125 by omega, show 0 + 12 + 0 ≤ 750 by omega⟩
                · rw [if_pos c8] at hf
                  refine ag_qload_n 0 dL_does_109 rfl ?_
                  refine ag_iload_n 2 dL_does_110 rfl ?_
                  refine ag_iload_n 3 dL_does_111 rfl ?_
                  obtain ⟨hk_70, hf⟩ := hf
                  rcases hf with ⟨v72, h73, q71, hD74, hf⟩ | ⟨h75, q71, hD76, hf⟩ | ⟨h78, q71, hD79, hf⟩ | ⟨h81, q71, hD82, hf⟩
                  · refine ag_callV 6 (some t) [.int a2, .int a3] 2 rfl (LW_ob hk_70) rfl rfl (ctC hD (ctX8_branch hl h _ _ _ q71)) ⟨wl3 (i := 93) rfl rfl, ciX8_branch.1, ciX8_branch.2.1, ciX8_branch.2.2⟩ (wl3 (i := 94) rfl rfl) (wl3 (i := 95) rfl rfl) dL_does_112 rfl rfl (Nat.le_of_ble_eq_true rfl) ⟨Nat.le_of_ble_eq_true rfl, Nat.le_of_ble_eq_true rfl⟩ ⟨show 0 + 6 ≤ 125 by omega, show 0 + 36 ≤ 750 by omega⟩ (fun _ => ?_)
                    refine ag_goto 191 dL_does_115 (by decide) ?_
                    exact agr_iretH hD74 hf dL_does_191 rfl ⟨show 0 + 6 + 0 ≤ 125 by omega, show 0 + 36 + 0 ≤ 750 by omega⟩
                  · refine agw_catch (hh := hhL_does) 6 (some t) [.int a2, .int a3] 2 [] ⟨0, 191, 192, 51⟩ [⟨0, 191, 198, 53⟩, ⟨0, 191, 204, 55⟩] rfl (fun w hw => by cases hw) (by decide) (by decide) (wl1 (i := 132) rfl rfl) (wm2 (i := 4) rfl) rfl (LW_ob hk_70) rfl rfl (ctC hD (ctX8_branch hl h _ _ _ q71)) ⟨wl3 (i := 93) rfl rfl, ciX8_branch.1, ciX8_branch.2.1, ciX8_branch.2.2⟩ (wl3 (i := 94) rfl rfl) (wl3 (i := 95) rfl rfl) dL_does_112 rfl rfl (Nat.le_of_ble_eq_true rfl) ⟨Nat.le_of_ble_eq_true rfl, Nat.le_of_ble_eq_true rfl⟩ ⟨show 0 + 6 ≤ 125 by omega, show 0 + 36 ≤ 750 by omega⟩ (fun z77 bx hz_ _ => ?_)
                    replace hf := hf z77 hz_
                    show AWG (xXw hhL_does) (zRH rmL_does g lo (LW g lo h L) K) ML_does rmL_does l g (LW g lo h L) (0 + 6) (0 + 36) (LW g lo (s_Z h75 z77) L) 192 [(0, va_rf (some t)), (1, .int a1), (2, .int a2), (3, .int a3), (4, .int a4), (5, .int a5), (6, .int a6)] [.ref bx]
                    refine ag_qstore [(7, va_rf (some bx)), (0, va_rf (some t)), (1, .int a1), (2, .int a2), (3, .int a3), (4, .int a4), (5, .int a5), (6, .int a6)] (r := (some bx)) dL_does_192 (by decide) rfl ?_
                    refine ag_sipush (-300 : Int32) dL_does_194 (by decide) ?_
                    exact agr_iretH (hD76.Z hz_) hf dL_does_197 rfl ⟨show 0 + 6 + 0 ≤ 125 by omega, show 0 + 36 + 0 ≤ 750 by omega⟩
                  · refine agw_catch (hh := hhL_does) 6 (some t) [.int a2, .int a3] 2 [⟨0, 191, 192, 51⟩] ⟨0, 191, 198, 53⟩ [⟨0, 191, 204, 55⟩] rfl (fun w hw => by simp only [List.mem_cons, List.not_mem_nil, or_false] at hw; subst hw; exact ⟨by decide, "java/lang/IndexOutOfBoundsException", wl1 (i := 132) rfl rfl, by decide⟩) (by decide) (by decide) (wl1 (i := 133) rfl rfl) (wm1 (i := 144) rfl) rfl (LW_ob hk_70) rfl rfl (ctC hD (ctX8_branch hl h _ _ _ q71)) ⟨wl3 (i := 93) rfl rfl, ciX8_branch.1, ciX8_branch.2.1, ciX8_branch.2.2⟩ (wl3 (i := 94) rfl rfl) (wl3 (i := 95) rfl rfl) dL_does_112 rfl rfl (Nat.le_of_ble_eq_true rfl) ⟨Nat.le_of_ble_eq_true rfl, Nat.le_of_ble_eq_true rfl⟩ ⟨show 0 + 6 ≤ 125 by omega, show 0 + 36 ≤ 750 by omega⟩ (fun z80 bx hz_ _ => ?_)
                    replace hf := hf z80 hz_
                    show AWG (xXw hhL_does) (zRH rmL_does g lo (LW g lo h L) K) ML_does rmL_does l g (LW g lo h L) (0 + 6) (0 + 36) (LW g lo (s_Z h78 z80) L) 198 [(0, va_rf (some t)), (1, .int a1), (2, .int a2), (3, .int a3), (4, .int a4), (5, .int a5), (6, .int a6)] [.ref bx]
                    refine ag_qstore [(7, va_rf (some bx)), (0, va_rf (some t)), (1, .int a1), (2, .int a2), (3, .int a3), (4, .int a4), (5, .int a5), (6, .int a6)] (r := (some bx)) dL_does_198 (by decide) rfl ?_
                    refine ag_sipush (-200 : Int32) dL_does_200 (by decide) ?_
                    exact agr_iretH (hD79.Z hz_) hf dL_does_203 rfl ⟨show 0 + 6 + 0 ≤ 125 by omega, show 0 + 36 + 0 ≤ 750 by omega⟩
                  · refine agw_catch (hh := hhL_does) 6 (some t) [.int a2, .int a3] 2 [⟨0, 191, 192, 51⟩, ⟨0, 191, 198, 53⟩] ⟨0, 191, 204, 55⟩ [] rfl (fun w hw => by simp only [List.mem_cons, List.not_mem_nil, or_false] at hw; rcases hw with rfl | rfl; exact ⟨by decide, "java/lang/IndexOutOfBoundsException", wl1 (i := 132) rfl rfl, by decide⟩; exact ⟨by decide, "java/lang/IllegalArgumentException", wl1 (i := 133) rfl rfl, by decide⟩) (by decide) (by decide) (wl1 (i := 134) rfl rfl) (wm1 (i := 216) rfl) rfl (LW_ob hk_70) rfl rfl (ctC hD (ctX8_branch hl h _ _ _ q71)) ⟨wl3 (i := 93) rfl rfl, ciX8_branch.1, ciX8_branch.2.1, ciX8_branch.2.2⟩ (wl3 (i := 94) rfl rfl) (wl3 (i := 95) rfl rfl) dL_does_112 rfl rfl (Nat.le_of_ble_eq_true rfl) ⟨Nat.le_of_ble_eq_true rfl, Nat.le_of_ble_eq_true rfl⟩ ⟨show 0 + 6 ≤ 125 by omega, show 0 + 36 ≤ 750 by omega⟩ (fun z83 bx hz_ _ => ?_)
                    replace hf := hf z83 hz_
                    show AWG (xXw hhL_does) (zRH rmL_does g lo (LW g lo h L) K) ML_does rmL_does l g (LW g lo h L) (0 + 6) (0 + 36) (LW g lo (s_Z h81 z83) L) 204 [(0, va_rf (some t)), (1, .int a1), (2, .int a2), (3, .int a3), (4, .int a4), (5, .int a5), (6, .int a6)] [.ref bx]
                    refine ag_qstore [(7, va_rf (some bx)), (0, va_rf (some t)), (1, .int a1), (2, .int a2), (3, .int a3), (4, .int a4), (5, .int a5), (6, .int a6)] (r := (some bx)) dL_does_204 (by decide) rfl ?_
                    refine ag_bipush (-100 : Int32) dL_does_206 (by decide) ?_
                    exact agr_iretH (hD82.Z hz_) hf dL_does_208 rfl ⟨show 0 + 6 + 0 ≤ 125 by omega, show 0 + 36 + 0 ≤ 750 by omega⟩
              · rw [if_pos c7] at hf
                refine ag_qload_n 0 dL_does_94 rfl ?_
                refine ag_iload_n 2 dL_does_95 rfl ?_
                refine ag_iload_n 3 dL_does_96 rfl ?_
                obtain ⟨hk_84, hf⟩ := hf
                rcases hf with ⟨v86, h87, q85, hD88, hf⟩ | ⟨h89, q85, hD90, hf⟩ | ⟨h92, q85, hD93, hf⟩ | ⟨h95, q85, hD96, hf⟩
                · refine ag_callV 6 (some t) [.int a2, .int a3] 2 rfl (LW_ob hk_84) rfl rfl (ctC hD (ctX8_lesson hl h _ _ _ q85)) ⟨wl3 (i := 39) rfl rfl, ciX8_lesson.1, ciX8_lesson.2.1, ciX8_lesson.2.2⟩ (wl3 (i := 40) rfl rfl) (wl3 (i := 41) rfl rfl) dL_does_97 rfl rfl (Nat.le_of_ble_eq_true rfl) ⟨Nat.le_of_ble_eq_true rfl, Nat.le_of_ble_eq_true rfl⟩ ⟨show 0 + 5 ≤ 125 by omega, show 0 + 30 ≤ 750 by omega⟩ (fun _ => ?_)
                  refine ag_goto 191 dL_does_100 (by decide) ?_
                  exact agr_iretH hD88 hf dL_does_191 rfl ⟨show 0 + 5 + 0 ≤ 125 by omega, show 0 + 30 + 0 ≤ 750 by omega⟩
                · refine agw_catch (hh := hhL_does) 6 (some t) [.int a2, .int a3] 2 [] ⟨0, 191, 192, 51⟩ [⟨0, 191, 198, 53⟩, ⟨0, 191, 204, 55⟩] rfl (fun w hw => by cases hw) (by decide) (by decide) (wl1 (i := 132) rfl rfl) (wm2 (i := 4) rfl) rfl (LW_ob hk_84) rfl rfl (ctC hD (ctX8_lesson hl h _ _ _ q85)) ⟨wl3 (i := 39) rfl rfl, ciX8_lesson.1, ciX8_lesson.2.1, ciX8_lesson.2.2⟩ (wl3 (i := 40) rfl rfl) (wl3 (i := 41) rfl rfl) dL_does_97 rfl rfl (Nat.le_of_ble_eq_true rfl) ⟨Nat.le_of_ble_eq_true rfl, Nat.le_of_ble_eq_true rfl⟩ ⟨show 0 + 5 ≤ 125 by omega, show 0 + 30 ≤ 750 by omega⟩ (fun z91 bx hz_ _ => ?_)
                  replace hf := hf z91 hz_
                  show AWG (xXw hhL_does) (zRH rmL_does g lo (LW g lo h L) K) ML_does rmL_does l g (LW g lo h L) (0 + 5) (0 + 30) (LW g lo (s_Z h89 z91) L) 192 [(0, va_rf (some t)), (1, .int a1), (2, .int a2), (3, .int a3), (4, .int a4), (5, .int a5), (6, .int a6)] [.ref bx]
                  refine ag_qstore [(7, va_rf (some bx)), (0, va_rf (some t)), (1, .int a1), (2, .int a2), (3, .int a3), (4, .int a4), (5, .int a5), (6, .int a6)] (r := (some bx)) dL_does_192 (by decide) rfl ?_
                  refine ag_sipush (-300 : Int32) dL_does_194 (by decide) ?_
                  exact agr_iretH (hD90.Z hz_) hf dL_does_197 rfl ⟨show 0 + 5 + 0 ≤ 125 by omega, show 0 + 30 + 0 ≤ 750 by omega⟩
                · refine agw_catch (hh := hhL_does) 6 (some t) [.int a2, .int a3] 2 [⟨0, 191, 192, 51⟩] ⟨0, 191, 198, 53⟩ [⟨0, 191, 204, 55⟩] rfl (fun w hw => by simp only [List.mem_cons, List.not_mem_nil, or_false] at hw; subst hw; exact ⟨by decide, "java/lang/IndexOutOfBoundsException", wl1 (i := 132) rfl rfl, by decide⟩) (by decide) (by decide) (wl1 (i := 133) rfl rfl) (wm1 (i := 144) rfl) rfl (LW_ob hk_84) rfl rfl (ctC hD (ctX8_lesson hl h _ _ _ q85)) ⟨wl3 (i := 39) rfl rfl, ciX8_lesson.1, ciX8_lesson.2.1, ciX8_lesson.2.2⟩ (wl3 (i := 40) rfl rfl) (wl3 (i := 41) rfl rfl) dL_does_97 rfl rfl (Nat.le_of_ble_eq_true rfl) ⟨Nat.le_of_ble_eq_true rfl, Nat.le_of_ble_eq_true rfl⟩ ⟨show 0 + 5 ≤ 125 by omega, show 0 + 30 ≤ 750 by omega⟩ (fun z94 bx hz_ _ => ?_)
                  replace hf := hf z94 hz_
                  show AWG (xXw hhL_does) (zRH rmL_does g lo (LW g lo h L) K) ML_does rmL_does l g (LW g lo h L) (0 + 5) (0 + 30) (LW g lo (s_Z h92 z94) L) 198 [(0, va_rf (some t)), (1, .int a1), (2, .int a2), (3, .int a3), (4, .int a4), (5, .int a5), (6, .int a6)] [.ref bx]
                  refine ag_qstore [(7, va_rf (some bx)), (0, va_rf (some t)), (1, .int a1), (2, .int a2), (3, .int a3), (4, .int a4), (5, .int a5), (6, .int a6)] (r := (some bx)) dL_does_198 (by decide) rfl ?_
                  refine ag_sipush (-200 : Int32) dL_does_200 (by decide) ?_
                  exact agr_iretH (hD93.Z hz_) hf dL_does_203 rfl ⟨show 0 + 5 + 0 ≤ 125 by omega, show 0 + 30 + 0 ≤ 750 by omega⟩
                · refine agw_catch (hh := hhL_does) 6 (some t) [.int a2, .int a3] 2 [⟨0, 191, 192, 51⟩, ⟨0, 191, 198, 53⟩] ⟨0, 191, 204, 55⟩ [] rfl (fun w hw => by simp only [List.mem_cons, List.not_mem_nil, or_false] at hw; rcases hw with rfl | rfl; exact ⟨by decide, "java/lang/IndexOutOfBoundsException", wl1 (i := 132) rfl rfl, by decide⟩; exact ⟨by decide, "java/lang/IllegalArgumentException", wl1 (i := 133) rfl rfl, by decide⟩) (by decide) (by decide) (wl1 (i := 134) rfl rfl) (wm1 (i := 216) rfl) rfl (LW_ob hk_84) rfl rfl (ctC hD (ctX8_lesson hl h _ _ _ q85)) ⟨wl3 (i := 39) rfl rfl, ciX8_lesson.1, ciX8_lesson.2.1, ciX8_lesson.2.2⟩ (wl3 (i := 40) rfl rfl) (wl3 (i := 41) rfl rfl) dL_does_97 rfl rfl (Nat.le_of_ble_eq_true rfl) ⟨Nat.le_of_ble_eq_true rfl, Nat.le_of_ble_eq_true rfl⟩ ⟨show 0 + 5 ≤ 125 by omega, show 0 + 30 ≤ 750 by omega⟩ (fun z97 bx hz_ _ => ?_)
                  replace hf := hf z97 hz_
                  show AWG (xXw hhL_does) (zRH rmL_does g lo (LW g lo h L) K) ML_does rmL_does l g (LW g lo h L) (0 + 5) (0 + 30) (LW g lo (s_Z h95 z97) L) 204 [(0, va_rf (some t)), (1, .int a1), (2, .int a2), (3, .int a3), (4, .int a4), (5, .int a5), (6, .int a6)] [.ref bx]
                  refine ag_qstore [(7, va_rf (some bx)), (0, va_rf (some t)), (1, .int a1), (2, .int a2), (3, .int a3), (4, .int a4), (5, .int a5), (6, .int a6)] (r := (some bx)) dL_does_204 (by decide) rfl ?_
                  refine ag_bipush (-100 : Int32) dL_does_206 (by decide) ?_
                  exact agr_iretH (hD96.Z hz_) hf dL_does_208 rfl ⟨show 0 + 5 + 0 ≤ 125 by omega, show 0 + 30 + 0 ≤ 750 by omega⟩
            · rw [if_pos c6] at hf
              refine ag_qload_n 0 dL_does_80 rfl ?_
              refine ag_iload_n 2 dL_does_81 rfl ?_
              obtain ⟨hk_98, hf⟩ := hf
              rcases hf with ⟨v100, h101, q99, hD102, hf⟩ | ⟨h103, q99, hD104, hf⟩ | ⟨h106, q99, hD107, hf⟩ | ⟨h109, q99, hD110, hf⟩
              · refine ag_callV 6 (some t) [.int a2] 1 rfl (LW_ob hk_98) rfl rfl (ctC hD (ctX8_judge hl h _ _ q99)) ⟨wl3 (i := 29) rfl rfl, ciX8_judge.1, ciX8_judge.2.1, ciX8_judge.2.2⟩ (wl3 (i := 30) rfl rfl) (wl3 (i := 31) rfl rfl) dL_does_82 rfl rfl (Nat.le_of_ble_eq_true rfl) ⟨Nat.le_of_ble_eq_true rfl, Nat.le_of_ble_eq_true rfl⟩ ⟨show 0 + 2 ≤ 125 by omega, show 0 + 12 ≤ 750 by omega⟩ (fun _ => ?_)
                refine ag_goto 191 dL_does_85 (by decide) ?_
                exact agr_iretH hD102 hf dL_does_191 rfl ⟨show 0 + 2 + 0 ≤ 125 by omega, show 0 + 12 + 0 ≤ 750 by omega⟩
              · refine agw_catch (hh := hhL_does) 6 (some t) [.int a2] 1 [] ⟨0, 191, 192, 51⟩ [⟨0, 191, 198, 53⟩, ⟨0, 191, 204, 55⟩] rfl (fun w hw => by cases hw) (by decide) (by decide) (wl1 (i := 132) rfl rfl) (wm2 (i := 4) rfl) rfl (LW_ob hk_98) rfl rfl (ctC hD (ctX8_judge hl h _ _ q99)) ⟨wl3 (i := 29) rfl rfl, ciX8_judge.1, ciX8_judge.2.1, ciX8_judge.2.2⟩ (wl3 (i := 30) rfl rfl) (wl3 (i := 31) rfl rfl) dL_does_82 rfl rfl (Nat.le_of_ble_eq_true rfl) ⟨Nat.le_of_ble_eq_true rfl, Nat.le_of_ble_eq_true rfl⟩ ⟨show 0 + 2 ≤ 125 by omega, show 0 + 12 ≤ 750 by omega⟩ (fun z105 bx hz_ _ => ?_)
                replace hf := hf z105 hz_
                show AWG (xXw hhL_does) (zRH rmL_does g lo (LW g lo h L) K) ML_does rmL_does l g (LW g lo h L) (0 + 2) (0 + 12) (LW g lo (s_Z h103 z105) L) 192 [(0, va_rf (some t)), (1, .int a1), (2, .int a2), (3, .int a3), (4, .int a4), (5, .int a5), (6, .int a6)] [.ref bx]
                refine ag_qstore [(7, va_rf (some bx)), (0, va_rf (some t)), (1, .int a1), (2, .int a2), (3, .int a3), (4, .int a4), (5, .int a5), (6, .int a6)] (r := (some bx)) dL_does_192 (by decide) rfl ?_
                refine ag_sipush (-300 : Int32) dL_does_194 (by decide) ?_
                exact agr_iretH (hD104.Z hz_) hf dL_does_197 rfl ⟨show 0 + 2 + 0 ≤ 125 by omega, show 0 + 12 + 0 ≤ 750 by omega⟩
              · refine agw_catch (hh := hhL_does) 6 (some t) [.int a2] 1 [⟨0, 191, 192, 51⟩] ⟨0, 191, 198, 53⟩ [⟨0, 191, 204, 55⟩] rfl (fun w hw => by simp only [List.mem_cons, List.not_mem_nil, or_false] at hw; subst hw; exact ⟨by decide, "java/lang/IndexOutOfBoundsException", wl1 (i := 132) rfl rfl, by decide⟩) (by decide) (by decide) (wl1 (i := 133) rfl rfl) (wm1 (i := 144) rfl) rfl (LW_ob hk_98) rfl rfl (ctC hD (ctX8_judge hl h _ _ q99)) ⟨wl3 (i := 29) rfl rfl, ciX8_judge.1, ciX8_judge.2.1, ciX8_judge.2.2⟩ (wl3 (i := 30) rfl rfl) (wl3 (i := 31) rfl rfl) dL_does_82 rfl rfl (Nat.le_of_ble_eq_true rfl) ⟨Nat.le_of_ble_eq_true rfl, Nat.le_of_ble_eq_true rfl⟩ ⟨show 0 + 2 ≤ 125 by omega, show 0 + 12 ≤ 750 by omega⟩ (fun z108 bx hz_ _ => ?_)
                replace hf := hf z108 hz_
                show AWG (xXw hhL_does) (zRH rmL_does g lo (LW g lo h L) K) ML_does rmL_does l g (LW g lo h L) (0 + 2) (0 + 12) (LW g lo (s_Z h106 z108) L) 198 [(0, va_rf (some t)), (1, .int a1), (2, .int a2), (3, .int a3), (4, .int a4), (5, .int a5), (6, .int a6)] [.ref bx]
                refine ag_qstore [(7, va_rf (some bx)), (0, va_rf (some t)), (1, .int a1), (2, .int a2), (3, .int a3), (4, .int a4), (5, .int a5), (6, .int a6)] (r := (some bx)) dL_does_198 (by decide) rfl ?_
                refine ag_sipush (-200 : Int32) dL_does_200 (by decide) ?_
                exact agr_iretH (hD107.Z hz_) hf dL_does_203 rfl ⟨show 0 + 2 + 0 ≤ 125 by omega, show 0 + 12 + 0 ≤ 750 by omega⟩
              · refine agw_catch (hh := hhL_does) 6 (some t) [.int a2] 1 [⟨0, 191, 192, 51⟩, ⟨0, 191, 198, 53⟩] ⟨0, 191, 204, 55⟩ [] rfl (fun w hw => by simp only [List.mem_cons, List.not_mem_nil, or_false] at hw; rcases hw with rfl | rfl; exact ⟨by decide, "java/lang/IndexOutOfBoundsException", wl1 (i := 132) rfl rfl, by decide⟩; exact ⟨by decide, "java/lang/IllegalArgumentException", wl1 (i := 133) rfl rfl, by decide⟩) (by decide) (by decide) (wl1 (i := 134) rfl rfl) (wm1 (i := 216) rfl) rfl (LW_ob hk_98) rfl rfl (ctC hD (ctX8_judge hl h _ _ q99)) ⟨wl3 (i := 29) rfl rfl, ciX8_judge.1, ciX8_judge.2.1, ciX8_judge.2.2⟩ (wl3 (i := 30) rfl rfl) (wl3 (i := 31) rfl rfl) dL_does_82 rfl rfl (Nat.le_of_ble_eq_true rfl) ⟨Nat.le_of_ble_eq_true rfl, Nat.le_of_ble_eq_true rfl⟩ ⟨show 0 + 2 ≤ 125 by omega, show 0 + 12 ≤ 750 by omega⟩ (fun z111 bx hz_ _ => ?_)
                replace hf := hf z111 hz_
                show AWG (xXw hhL_does) (zRH rmL_does g lo (LW g lo h L) K) ML_does rmL_does l g (LW g lo h L) (0 + 2) (0 + 12) (LW g lo (s_Z h109 z111) L) 204 [(0, va_rf (some t)), (1, .int a1), (2, .int a2), (3, .int a3), (4, .int a4), (5, .int a5), (6, .int a6)] [.ref bx]
                refine ag_qstore [(7, va_rf (some bx)), (0, va_rf (some t)), (1, .int a1), (2, .int a2), (3, .int a3), (4, .int a4), (5, .int a5), (6, .int a6)] (r := (some bx)) dL_does_204 (by decide) rfl ?_
                refine ag_bipush (-100 : Int32) dL_does_206 (by decide) ?_
                exact agr_iretH (hD110.Z hz_) hf dL_does_208 rfl ⟨show 0 + 2 + 0 ≤ 125 by omega, show 0 + 12 + 0 ≤ 750 by omega⟩
          · rw [if_pos c5] at hf
            refine ag_qload_n 0 dL_does_67 rfl ?_
            refine ag_iload_n 2 dL_does_68 rfl ?_
            obtain ⟨hk_112, hf⟩ := hf
            rcases hf with ⟨v114, h115, q113, hD116, hf⟩ | ⟨h117, q113, hD118, hf⟩ | ⟨h120, q113, hD121, hf⟩ | ⟨h123, q113, hD124, hf⟩
            · refine ag_callV 6 (some t) [.int a2] 1 rfl (LW_ob hk_112) rfl rfl (ctC hD (ctX8_resign hl h _ _ q113)) ⟨wl3 (i := 23) rfl rfl, ciX8_resign.1, ciX8_resign.2.1, ciX8_resign.2.2⟩ (wl3 (i := 24) rfl rfl) (wl3 (i := 25) rfl rfl) dL_does_69 rfl rfl (Nat.le_of_ble_eq_true rfl) ⟨Nat.le_of_ble_eq_true rfl, Nat.le_of_ble_eq_true rfl⟩ ⟨show 0 + 2 ≤ 125 by omega, show 0 + 12 ≤ 750 by omega⟩ (fun _ => ?_)
              refine ag_goto 191 dL_does_72 (by decide) ?_
              exact agr_iretH hD116 hf dL_does_191 rfl ⟨show 0 + 2 + 0 ≤ 125 by omega, show 0 + 12 + 0 ≤ 750 by omega⟩
            · refine agw_catch (hh := hhL_does) 6 (some t) [.int a2] 1 [] ⟨0, 191, 192, 51⟩ [⟨0, 191, 198, 53⟩, ⟨0, 191, 204, 55⟩] rfl (fun w hw => by cases hw) (by decide) (by decide) (wl1 (i := 132) rfl rfl) (wm2 (i := 4) rfl) rfl (LW_ob hk_112) rfl rfl (ctC hD (ctX8_resign hl h _ _ q113)) ⟨wl3 (i := 23) rfl rfl, ciX8_resign.1, ciX8_resign.2.1, ciX8_resign.2.2⟩ (wl3 (i := 24) rfl rfl) (wl3 (i := 25) rfl rfl) dL_does_69 rfl rfl (Nat.le_of_ble_eq_true rfl) ⟨Nat.le_of_ble_eq_true rfl, Nat.le_of_ble_eq_true rfl⟩ ⟨show 0 + 2 ≤ 125 by omega, show 0 + 12 ≤ 750 by omega⟩ (fun z119 bx hz_ _ => ?_)
              replace hf := hf z119 hz_
              show AWG (xXw hhL_does) (zRH rmL_does g lo (LW g lo h L) K) ML_does rmL_does l g (LW g lo h L) (0 + 2) (0 + 12) (LW g lo (s_Z h117 z119) L) 192 [(0, va_rf (some t)), (1, .int a1), (2, .int a2), (3, .int a3), (4, .int a4), (5, .int a5), (6, .int a6)] [.ref bx]
              refine ag_qstore [(7, va_rf (some bx)), (0, va_rf (some t)), (1, .int a1), (2, .int a2), (3, .int a3), (4, .int a4), (5, .int a5), (6, .int a6)] (r := (some bx)) dL_does_192 (by decide) rfl ?_
              refine ag_sipush (-300 : Int32) dL_does_194 (by decide) ?_
              exact agr_iretH (hD118.Z hz_) hf dL_does_197 rfl ⟨show 0 + 2 + 0 ≤ 125 by omega, show 0 + 12 + 0 ≤ 750 by omega⟩
            · refine agw_catch (hh := hhL_does) 6 (some t) [.int a2] 1 [⟨0, 191, 192, 51⟩] ⟨0, 191, 198, 53⟩ [⟨0, 191, 204, 55⟩] rfl (fun w hw => by simp only [List.mem_cons, List.not_mem_nil, or_false] at hw; subst hw; exact ⟨by decide, "java/lang/IndexOutOfBoundsException", wl1 (i := 132) rfl rfl, by decide⟩) (by decide) (by decide) (wl1 (i := 133) rfl rfl) (wm1 (i := 144) rfl) rfl (LW_ob hk_112) rfl rfl (ctC hD (ctX8_resign hl h _ _ q113)) ⟨wl3 (i := 23) rfl rfl, ciX8_resign.1, ciX8_resign.2.1, ciX8_resign.2.2⟩ (wl3 (i := 24) rfl rfl) (wl3 (i := 25) rfl rfl) dL_does_69 rfl rfl (Nat.le_of_ble_eq_true rfl) ⟨Nat.le_of_ble_eq_true rfl, Nat.le_of_ble_eq_true rfl⟩ ⟨show 0 + 2 ≤ 125 by omega, show 0 + 12 ≤ 750 by omega⟩ (fun z122 bx hz_ _ => ?_)
              replace hf := hf z122 hz_
              show AWG (xXw hhL_does) (zRH rmL_does g lo (LW g lo h L) K) ML_does rmL_does l g (LW g lo h L) (0 + 2) (0 + 12) (LW g lo (s_Z h120 z122) L) 198 [(0, va_rf (some t)), (1, .int a1), (2, .int a2), (3, .int a3), (4, .int a4), (5, .int a5), (6, .int a6)] [.ref bx]
              refine ag_qstore [(7, va_rf (some bx)), (0, va_rf (some t)), (1, .int a1), (2, .int a2), (3, .int a3), (4, .int a4), (5, .int a5), (6, .int a6)] (r := (some bx)) dL_does_198 (by decide) rfl ?_
              refine ag_sipush (-200 : Int32) dL_does_200 (by decide) ?_
              exact agr_iretH (hD121.Z hz_) hf dL_does_203 rfl ⟨show 0 + 2 + 0 ≤ 125 by omega, show 0 + 12 + 0 ≤ 750 by omega⟩
            · refine agw_catch (hh := hhL_does) 6 (some t) [.int a2] 1 [⟨0, 191, 192, 51⟩, ⟨0, 191, 198, 53⟩] ⟨0, 191, 204, 55⟩ [] rfl (fun w hw => by simp only [List.mem_cons, List.not_mem_nil, or_false] at hw; rcases hw with rfl | rfl; exact ⟨by decide, "java/lang/IndexOutOfBoundsException", wl1 (i := 132) rfl rfl, by decide⟩; exact ⟨by decide, "java/lang/IllegalArgumentException", wl1 (i := 133) rfl rfl, by decide⟩) (by decide) (by decide) (wl1 (i := 134) rfl rfl) (wm1 (i := 216) rfl) rfl (LW_ob hk_112) rfl rfl (ctC hD (ctX8_resign hl h _ _ q113)) ⟨wl3 (i := 23) rfl rfl, ciX8_resign.1, ciX8_resign.2.1, ciX8_resign.2.2⟩ (wl3 (i := 24) rfl rfl) (wl3 (i := 25) rfl rfl) dL_does_69 rfl rfl (Nat.le_of_ble_eq_true rfl) ⟨Nat.le_of_ble_eq_true rfl, Nat.le_of_ble_eq_true rfl⟩ ⟨show 0 + 2 ≤ 125 by omega, show 0 + 12 ≤ 750 by omega⟩ (fun z125 bx hz_ _ => ?_)
              replace hf := hf z125 hz_
              show AWG (xXw hhL_does) (zRH rmL_does g lo (LW g lo h L) K) ML_does rmL_does l g (LW g lo h L) (0 + 2) (0 + 12) (LW g lo (s_Z h123 z125) L) 204 [(0, va_rf (some t)), (1, .int a1), (2, .int a2), (3, .int a3), (4, .int a4), (5, .int a5), (6, .int a6)] [.ref bx]
              refine ag_qstore [(7, va_rf (some bx)), (0, va_rf (some t)), (1, .int a1), (2, .int a2), (3, .int a3), (4, .int a4), (5, .int a5), (6, .int a6)] (r := (some bx)) dL_does_204 (by decide) rfl ?_
              refine ag_bipush (-100 : Int32) dL_does_206 (by decide) ?_
              exact agr_iretH (hD124.Z hz_) hf dL_does_208 rfl ⟨show 0 + 2 + 0 ≤ 125 by omega, show 0 + 12 + 0 ≤ 750 by omega⟩
        · rw [if_pos c4] at hf
          refine ag_qload_n 0 dL_does_53 rfl ?_
          refine ag_iload_n 2 dL_does_54 rfl ?_
          refine ag_iload_n 3 dL_does_55 rfl ?_
          obtain ⟨hk_126, hf⟩ := hf
          rcases hf with ⟨v128, h129, q127, hD130, hf⟩ | ⟨h131, q127, hD132, hf⟩ | ⟨h134, q127, hD135, hf⟩ | ⟨h137, q127, hD138, hf⟩
          · refine ag_callV 6 (some t) [.int a2, .int a3] 2 rfl (LW_ob hk_126) rfl rfl (ctC hD (ctX8_pass hl h _ _ _ q127)) ⟨wl2 (i := 230) rfl rfl, ciX8_pass.1, ciX8_pass.2.1, ciX8_pass.2.2⟩ (wl2 (i := 231) rfl rfl) (wl2 (i := 232) rfl rfl) dL_does_56 rfl rfl (Nat.le_of_ble_eq_true rfl) ⟨Nat.le_of_ble_eq_true rfl, Nat.le_of_ble_eq_true rfl⟩ ⟨show 0 + 4 ≤ 125 by omega, show 0 + 24 ≤ 750 by omega⟩ (fun _ => ?_)
            refine ag_goto 191 dL_does_59 (by decide) ?_
            exact agr_iretH hD130 hf dL_does_191 rfl ⟨show 0 + 4 + 0 ≤ 125 by omega, show 0 + 24 + 0 ≤ 750 by omega⟩
          · refine agw_catch (hh := hhL_does) 6 (some t) [.int a2, .int a3] 2 [] ⟨0, 191, 192, 51⟩ [⟨0, 191, 198, 53⟩, ⟨0, 191, 204, 55⟩] rfl (fun w hw => by cases hw) (by decide) (by decide) (wl1 (i := 132) rfl rfl) (wm2 (i := 4) rfl) rfl (LW_ob hk_126) rfl rfl (ctC hD (ctX8_pass hl h _ _ _ q127)) ⟨wl2 (i := 230) rfl rfl, ciX8_pass.1, ciX8_pass.2.1, ciX8_pass.2.2⟩ (wl2 (i := 231) rfl rfl) (wl2 (i := 232) rfl rfl) dL_does_56 rfl rfl (Nat.le_of_ble_eq_true rfl) ⟨Nat.le_of_ble_eq_true rfl, Nat.le_of_ble_eq_true rfl⟩ ⟨show 0 + 4 ≤ 125 by omega, show 0 + 24 ≤ 750 by omega⟩ (fun z133 bx hz_ _ => ?_)
            replace hf := hf z133 hz_
            show AWG (xXw hhL_does) (zRH rmL_does g lo (LW g lo h L) K) ML_does rmL_does l g (LW g lo h L) (0 + 4) (0 + 24) (LW g lo (s_Z h131 z133) L) 192 [(0, va_rf (some t)), (1, .int a1), (2, .int a2), (3, .int a3), (4, .int a4), (5, .int a5), (6, .int a6)] [.ref bx]
            refine ag_qstore [(7, va_rf (some bx)), (0, va_rf (some t)), (1, .int a1), (2, .int a2), (3, .int a3), (4, .int a4), (5, .int a5), (6, .int a6)] (r := (some bx)) dL_does_192 (by decide) rfl ?_
            refine ag_sipush (-300 : Int32) dL_does_194 (by decide) ?_
            exact agr_iretH (hD132.Z hz_) hf dL_does_197 rfl ⟨show 0 + 4 + 0 ≤ 125 by omega, show 0 + 24 + 0 ≤ 750 by omega⟩
          · refine agw_catch (hh := hhL_does) 6 (some t) [.int a2, .int a3] 2 [⟨0, 191, 192, 51⟩] ⟨0, 191, 198, 53⟩ [⟨0, 191, 204, 55⟩] rfl (fun w hw => by simp only [List.mem_cons, List.not_mem_nil, or_false] at hw; subst hw; exact ⟨by decide, "java/lang/IndexOutOfBoundsException", wl1 (i := 132) rfl rfl, by decide⟩) (by decide) (by decide) (wl1 (i := 133) rfl rfl) (wm1 (i := 144) rfl) rfl (LW_ob hk_126) rfl rfl (ctC hD (ctX8_pass hl h _ _ _ q127)) ⟨wl2 (i := 230) rfl rfl, ciX8_pass.1, ciX8_pass.2.1, ciX8_pass.2.2⟩ (wl2 (i := 231) rfl rfl) (wl2 (i := 232) rfl rfl) dL_does_56 rfl rfl (Nat.le_of_ble_eq_true rfl) ⟨Nat.le_of_ble_eq_true rfl, Nat.le_of_ble_eq_true rfl⟩ ⟨show 0 + 4 ≤ 125 by omega, show 0 + 24 ≤ 750 by omega⟩ (fun z136 bx hz_ _ => ?_)
            replace hf := hf z136 hz_
            show AWG (xXw hhL_does) (zRH rmL_does g lo (LW g lo h L) K) ML_does rmL_does l g (LW g lo h L) (0 + 4) (0 + 24) (LW g lo (s_Z h134 z136) L) 198 [(0, va_rf (some t)), (1, .int a1), (2, .int a2), (3, .int a3), (4, .int a4), (5, .int a5), (6, .int a6)] [.ref bx]
            refine ag_qstore [(7, va_rf (some bx)), (0, va_rf (some t)), (1, .int a1), (2, .int a2), (3, .int a3), (4, .int a4), (5, .int a5), (6, .int a6)] (r := (some bx)) dL_does_198 (by decide) rfl ?_
            refine ag_sipush (-200 : Int32) dL_does_200 (by decide) ?_
            exact agr_iretH (hD135.Z hz_) hf dL_does_203 rfl ⟨show 0 + 4 + 0 ≤ 125 by omega, show 0 + 24 + 0 ≤ 750 by omega⟩
          · refine agw_catch (hh := hhL_does) 6 (some t) [.int a2, .int a3] 2 [⟨0, 191, 192, 51⟩, ⟨0, 191, 198, 53⟩] ⟨0, 191, 204, 55⟩ [] rfl (fun w hw => by simp only [List.mem_cons, List.not_mem_nil, or_false] at hw; rcases hw with rfl | rfl; exact ⟨by decide, "java/lang/IndexOutOfBoundsException", wl1 (i := 132) rfl rfl, by decide⟩; exact ⟨by decide, "java/lang/IllegalArgumentException", wl1 (i := 133) rfl rfl, by decide⟩) (by decide) (by decide) (wl1 (i := 134) rfl rfl) (wm1 (i := 216) rfl) rfl (LW_ob hk_126) rfl rfl (ctC hD (ctX8_pass hl h _ _ _ q127)) ⟨wl2 (i := 230) rfl rfl, ciX8_pass.1, ciX8_pass.2.1, ciX8_pass.2.2⟩ (wl2 (i := 231) rfl rfl) (wl2 (i := 232) rfl rfl) dL_does_56 rfl rfl (Nat.le_of_ble_eq_true rfl) ⟨Nat.le_of_ble_eq_true rfl, Nat.le_of_ble_eq_true rfl⟩ ⟨show 0 + 4 ≤ 125 by omega, show 0 + 24 ≤ 750 by omega⟩ (fun z139 bx hz_ _ => ?_)
            replace hf := hf z139 hz_
            show AWG (xXw hhL_does) (zRH rmL_does g lo (LW g lo h L) K) ML_does rmL_does l g (LW g lo h L) (0 + 4) (0 + 24) (LW g lo (s_Z h137 z139) L) 204 [(0, va_rf (some t)), (1, .int a1), (2, .int a2), (3, .int a3), (4, .int a4), (5, .int a5), (6, .int a6)] [.ref bx]
            refine ag_qstore [(7, va_rf (some bx)), (0, va_rf (some t)), (1, .int a1), (2, .int a2), (3, .int a3), (4, .int a4), (5, .int a5), (6, .int a6)] (r := (some bx)) dL_does_204 (by decide) rfl ?_
            refine ag_bipush (-100 : Int32) dL_does_206 (by decide) ?_
            exact agr_iretH (hD138.Z hz_) hf dL_does_208 rfl ⟨show 0 + 4 + 0 ≤ 125 by omega, show 0 + 24 + 0 ≤ 750 by omega⟩
      · rw [if_pos c3] at hf
        refine ag_qload_n 0 dL_does_37 rfl ?_
        refine ag_iload_n 2 dL_does_38 rfl ?_
        refine ag_iload_n 3 dL_does_39 rfl ?_
        refine ag_iload 4 dL_does_40 rfl ?_
        obtain ⟨hk_140, hf⟩ := hf
        rcases hf with ⟨v142, h143, q141, hD144, hf⟩ | ⟨h145, q141, hD146, hf⟩ | ⟨h148, q141, hD149, hf⟩ | ⟨h151, q141, hD152, hf⟩
        · refine ag_callV 6 (some t) [.int a2, .int a3, .int a4] 3 rfl (LW_ob hk_140) rfl rfl (ctC hD (ctX8_play hl h _ _ _ _ q141)) ⟨wl2 (i := 168) rfl rfl, ciX8_play.1, ciX8_play.2.1, ciX8_play.2.2⟩ (wl2 (i := 169) rfl rfl) (wl2 (i := 170) rfl rfl) dL_does_42 rfl rfl (Nat.le_of_ble_eq_true rfl) ⟨Nat.le_of_ble_eq_true rfl, Nat.le_of_ble_eq_true rfl⟩ ⟨show 0 + 5 ≤ 125 by omega, show 0 + 30 ≤ 750 by omega⟩ (fun _ => ?_)
          refine ag_goto 191 dL_does_45 (by decide) ?_
          exact agr_iretH hD144 hf dL_does_191 rfl ⟨show 0 + 5 + 0 ≤ 125 by omega, show 0 + 30 + 0 ≤ 750 by omega⟩
        · refine agw_catch (hh := hhL_does) 6 (some t) [.int a2, .int a3, .int a4] 3 [] ⟨0, 191, 192, 51⟩ [⟨0, 191, 198, 53⟩, ⟨0, 191, 204, 55⟩] rfl (fun w hw => by cases hw) (by decide) (by decide) (wl1 (i := 132) rfl rfl) (wm2 (i := 4) rfl) rfl (LW_ob hk_140) rfl rfl (ctC hD (ctX8_play hl h _ _ _ _ q141)) ⟨wl2 (i := 168) rfl rfl, ciX8_play.1, ciX8_play.2.1, ciX8_play.2.2⟩ (wl2 (i := 169) rfl rfl) (wl2 (i := 170) rfl rfl) dL_does_42 rfl rfl (Nat.le_of_ble_eq_true rfl) ⟨Nat.le_of_ble_eq_true rfl, Nat.le_of_ble_eq_true rfl⟩ ⟨show 0 + 5 ≤ 125 by omega, show 0 + 30 ≤ 750 by omega⟩ (fun z147 bx hz_ _ => ?_)
          replace hf := hf z147 hz_
          show AWG (xXw hhL_does) (zRH rmL_does g lo (LW g lo h L) K) ML_does rmL_does l g (LW g lo h L) (0 + 5) (0 + 30) (LW g lo (s_Z h145 z147) L) 192 [(0, va_rf (some t)), (1, .int a1), (2, .int a2), (3, .int a3), (4, .int a4), (5, .int a5), (6, .int a6)] [.ref bx]
          refine ag_qstore [(7, va_rf (some bx)), (0, va_rf (some t)), (1, .int a1), (2, .int a2), (3, .int a3), (4, .int a4), (5, .int a5), (6, .int a6)] (r := (some bx)) dL_does_192 (by decide) rfl ?_
          refine ag_sipush (-300 : Int32) dL_does_194 (by decide) ?_
          exact agr_iretH (hD146.Z hz_) hf dL_does_197 rfl ⟨show 0 + 5 + 0 ≤ 125 by omega, show 0 + 30 + 0 ≤ 750 by omega⟩
        · refine agw_catch (hh := hhL_does) 6 (some t) [.int a2, .int a3, .int a4] 3 [⟨0, 191, 192, 51⟩] ⟨0, 191, 198, 53⟩ [⟨0, 191, 204, 55⟩] rfl (fun w hw => by simp only [List.mem_cons, List.not_mem_nil, or_false] at hw; subst hw; exact ⟨by decide, "java/lang/IndexOutOfBoundsException", wl1 (i := 132) rfl rfl, by decide⟩) (by decide) (by decide) (wl1 (i := 133) rfl rfl) (wm1 (i := 144) rfl) rfl (LW_ob hk_140) rfl rfl (ctC hD (ctX8_play hl h _ _ _ _ q141)) ⟨wl2 (i := 168) rfl rfl, ciX8_play.1, ciX8_play.2.1, ciX8_play.2.2⟩ (wl2 (i := 169) rfl rfl) (wl2 (i := 170) rfl rfl) dL_does_42 rfl rfl (Nat.le_of_ble_eq_true rfl) ⟨Nat.le_of_ble_eq_true rfl, Nat.le_of_ble_eq_true rfl⟩ ⟨show 0 + 5 ≤ 125 by omega, show 0 + 30 ≤ 750 by omega⟩ (fun z150 bx hz_ _ => ?_)
          replace hf := hf z150 hz_
          show AWG (xXw hhL_does) (zRH rmL_does g lo (LW g lo h L) K) ML_does rmL_does l g (LW g lo h L) (0 + 5) (0 + 30) (LW g lo (s_Z h148 z150) L) 198 [(0, va_rf (some t)), (1, .int a1), (2, .int a2), (3, .int a3), (4, .int a4), (5, .int a5), (6, .int a6)] [.ref bx]
          refine ag_qstore [(7, va_rf (some bx)), (0, va_rf (some t)), (1, .int a1), (2, .int a2), (3, .int a3), (4, .int a4), (5, .int a5), (6, .int a6)] (r := (some bx)) dL_does_198 (by decide) rfl ?_
          refine ag_sipush (-200 : Int32) dL_does_200 (by decide) ?_
          exact agr_iretH (hD149.Z hz_) hf dL_does_203 rfl ⟨show 0 + 5 + 0 ≤ 125 by omega, show 0 + 30 + 0 ≤ 750 by omega⟩
        · refine agw_catch (hh := hhL_does) 6 (some t) [.int a2, .int a3, .int a4] 3 [⟨0, 191, 192, 51⟩, ⟨0, 191, 198, 53⟩] ⟨0, 191, 204, 55⟩ [] rfl (fun w hw => by simp only [List.mem_cons, List.not_mem_nil, or_false] at hw; rcases hw with rfl | rfl; exact ⟨by decide, "java/lang/IndexOutOfBoundsException", wl1 (i := 132) rfl rfl, by decide⟩; exact ⟨by decide, "java/lang/IllegalArgumentException", wl1 (i := 133) rfl rfl, by decide⟩) (by decide) (by decide) (wl1 (i := 134) rfl rfl) (wm1 (i := 216) rfl) rfl (LW_ob hk_140) rfl rfl (ctC hD (ctX8_play hl h _ _ _ _ q141)) ⟨wl2 (i := 168) rfl rfl, ciX8_play.1, ciX8_play.2.1, ciX8_play.2.2⟩ (wl2 (i := 169) rfl rfl) (wl2 (i := 170) rfl rfl) dL_does_42 rfl rfl (Nat.le_of_ble_eq_true rfl) ⟨Nat.le_of_ble_eq_true rfl, Nat.le_of_ble_eq_true rfl⟩ ⟨show 0 + 5 ≤ 125 by omega, show 0 + 30 ≤ 750 by omega⟩ (fun z153 bx hz_ _ => ?_)
          replace hf := hf z153 hz_
          show AWG (xXw hhL_does) (zRH rmL_does g lo (LW g lo h L) K) ML_does rmL_does l g (LW g lo h L) (0 + 5) (0 + 30) (LW g lo (s_Z h151 z153) L) 204 [(0, va_rf (some t)), (1, .int a1), (2, .int a2), (3, .int a3), (4, .int a4), (5, .int a5), (6, .int a6)] [.ref bx]
          refine ag_qstore [(7, va_rf (some bx)), (0, va_rf (some t)), (1, .int a1), (2, .int a2), (3, .int a3), (4, .int a4), (5, .int a5), (6, .int a6)] (r := (some bx)) dL_does_204 (by decide) rfl ?_
          refine ag_bipush (-100 : Int32) dL_does_206 (by decide) ?_
          exact agr_iretH (hD152.Z hz_) hf dL_does_208 rfl ⟨show 0 + 5 + 0 ≤ 125 by omega, show 0 + 30 + 0 ≤ 750 by omega⟩
    · rw [if_pos c2] at hf
      refine ag_qload_n 0 dL_does_17 rfl ?_
      refine ag_iload_n 2 dL_does_18 rfl ?_
      refine ag_iload_n 3 dL_does_19 rfl ?_
      refine ag_iload 4 dL_does_20 rfl ?_
      refine ag_iload 5 dL_does_22 rfl ?_
      refine ag_iload 6 dL_does_24 rfl ?_
      obtain ⟨hk_154, hf⟩ := hf
      rcases hf with ⟨v156, h157, q155, hD158, hf⟩ | ⟨h159, q155, hD160, hf⟩ | ⟨h162, q155, hD163, hf⟩ | ⟨h165, q155, hD166, hf⟩
      · refine ag_callV 6 (some t) [.int a2, .int a3, .int a4, .int a5, .int a6] 5 rfl (LW_ob hk_154) rfl rfl (ctC hD (ctX8_game hl h _ _ _ _ _ _ q155)) ⟨wl1 (i := 230) rfl rfl, ciX8_game.1, ciX8_game.2.1, ciX8_game.2.2⟩ (wl1 (i := 231) rfl rfl) (wl1 (i := 232) rfl rfl) dL_does_26 rfl rfl (Nat.le_of_ble_eq_true rfl) ⟨Nat.le_of_ble_eq_true rfl, Nat.le_of_ble_eq_true rfl⟩ ⟨show 0 + 11 ≤ 125 by omega, show 0 + 107 ≤ 750 by omega⟩ (fun _ => ?_)
        refine ag_goto 191 dL_does_29 (by decide) ?_
        exact agr_iretH hD158 hf dL_does_191 rfl ⟨show 0 + 11 + 0 ≤ 125 by omega, show 0 + 107 + 0 ≤ 750 by omega⟩
      · refine agw_catch (hh := hhL_does) 6 (some t) [.int a2, .int a3, .int a4, .int a5, .int a6] 5 [] ⟨0, 191, 192, 51⟩ [⟨0, 191, 198, 53⟩, ⟨0, 191, 204, 55⟩] rfl (fun w hw => by cases hw) (by decide) (by decide) (wl1 (i := 132) rfl rfl) (wm2 (i := 4) rfl) rfl (LW_ob hk_154) rfl rfl (ctC hD (ctX8_game hl h _ _ _ _ _ _ q155)) ⟨wl1 (i := 230) rfl rfl, ciX8_game.1, ciX8_game.2.1, ciX8_game.2.2⟩ (wl1 (i := 231) rfl rfl) (wl1 (i := 232) rfl rfl) dL_does_26 rfl rfl (Nat.le_of_ble_eq_true rfl) ⟨Nat.le_of_ble_eq_true rfl, Nat.le_of_ble_eq_true rfl⟩ ⟨show 0 + 11 ≤ 125 by omega, show 0 + 107 ≤ 750 by omega⟩ (fun z161 bx hz_ _ => ?_)
        replace hf := hf z161 hz_
        show AWG (xXw hhL_does) (zRH rmL_does g lo (LW g lo h L) K) ML_does rmL_does l g (LW g lo h L) (0 + 11) (0 + 107) (LW g lo (s_Z h159 z161) L) 192 [(0, va_rf (some t)), (1, .int a1), (2, .int a2), (3, .int a3), (4, .int a4), (5, .int a5), (6, .int a6)] [.ref bx]
        refine ag_qstore [(7, va_rf (some bx)), (0, va_rf (some t)), (1, .int a1), (2, .int a2), (3, .int a3), (4, .int a4), (5, .int a5), (6, .int a6)] (r := (some bx)) dL_does_192 (by decide) rfl ?_
        refine ag_sipush (-300 : Int32) dL_does_194 (by decide) ?_
        exact agr_iretH (hD160.Z hz_) hf dL_does_197 rfl ⟨show 0 + 11 + 0 ≤ 125 by omega, show 0 + 107 + 0 ≤ 750 by omega⟩
      · refine agw_catch (hh := hhL_does) 6 (some t) [.int a2, .int a3, .int a4, .int a5, .int a6] 5 [⟨0, 191, 192, 51⟩] ⟨0, 191, 198, 53⟩ [⟨0, 191, 204, 55⟩] rfl (fun w hw => by simp only [List.mem_cons, List.not_mem_nil, or_false] at hw; subst hw; exact ⟨by decide, "java/lang/IndexOutOfBoundsException", wl1 (i := 132) rfl rfl, by decide⟩) (by decide) (by decide) (wl1 (i := 133) rfl rfl) (wm1 (i := 144) rfl) rfl (LW_ob hk_154) rfl rfl (ctC hD (ctX8_game hl h _ _ _ _ _ _ q155)) ⟨wl1 (i := 230) rfl rfl, ciX8_game.1, ciX8_game.2.1, ciX8_game.2.2⟩ (wl1 (i := 231) rfl rfl) (wl1 (i := 232) rfl rfl) dL_does_26 rfl rfl (Nat.le_of_ble_eq_true rfl) ⟨Nat.le_of_ble_eq_true rfl, Nat.le_of_ble_eq_true rfl⟩ ⟨show 0 + 11 ≤ 125 by omega, show 0 + 107 ≤ 750 by omega⟩ (fun z164 bx hz_ _ => ?_)
        replace hf := hf z164 hz_
        show AWG (xXw hhL_does) (zRH rmL_does g lo (LW g lo h L) K) ML_does rmL_does l g (LW g lo h L) (0 + 11) (0 + 107) (LW g lo (s_Z h162 z164) L) 198 [(0, va_rf (some t)), (1, .int a1), (2, .int a2), (3, .int a3), (4, .int a4), (5, .int a5), (6, .int a6)] [.ref bx]
        refine ag_qstore [(7, va_rf (some bx)), (0, va_rf (some t)), (1, .int a1), (2, .int a2), (3, .int a3), (4, .int a4), (5, .int a5), (6, .int a6)] (r := (some bx)) dL_does_198 (by decide) rfl ?_
        refine ag_sipush (-200 : Int32) dL_does_200 (by decide) ?_
        exact agr_iretH (hD163.Z hz_) hf dL_does_203 rfl ⟨show 0 + 11 + 0 ≤ 125 by omega, show 0 + 107 + 0 ≤ 750 by omega⟩
      · refine agw_catch (hh := hhL_does) 6 (some t) [.int a2, .int a3, .int a4, .int a5, .int a6] 5 [⟨0, 191, 192, 51⟩, ⟨0, 191, 198, 53⟩] ⟨0, 191, 204, 55⟩ [] rfl (fun w hw => by simp only [List.mem_cons, List.not_mem_nil, or_false] at hw; rcases hw with rfl | rfl; exact ⟨by decide, "java/lang/IndexOutOfBoundsException", wl1 (i := 132) rfl rfl, by decide⟩; exact ⟨by decide, "java/lang/IllegalArgumentException", wl1 (i := 133) rfl rfl, by decide⟩) (by decide) (by decide) (wl1 (i := 134) rfl rfl) (wm1 (i := 216) rfl) rfl (LW_ob hk_154) rfl rfl (ctC hD (ctX8_game hl h _ _ _ _ _ _ q155)) ⟨wl1 (i := 230) rfl rfl, ciX8_game.1, ciX8_game.2.1, ciX8_game.2.2⟩ (wl1 (i := 231) rfl rfl) (wl1 (i := 232) rfl rfl) dL_does_26 rfl rfl (Nat.le_of_ble_eq_true rfl) ⟨Nat.le_of_ble_eq_true rfl, Nat.le_of_ble_eq_true rfl⟩ ⟨show 0 + 11 ≤ 125 by omega, show 0 + 107 ≤ 750 by omega⟩ (fun z167 bx hz_ _ => ?_)
        replace hf := hf z167 hz_
        show AWG (xXw hhL_does) (zRH rmL_does g lo (LW g lo h L) K) ML_does rmL_does l g (LW g lo h L) (0 + 11) (0 + 107) (LW g lo (s_Z h165 z167) L) 204 [(0, va_rf (some t)), (1, .int a1), (2, .int a2), (3, .int a3), (4, .int a4), (5, .int a5), (6, .int a6)] [.ref bx]
        refine ag_qstore [(7, va_rf (some bx)), (0, va_rf (some t)), (1, .int a1), (2, .int a2), (3, .int a3), (4, .int a4), (5, .int a5), (6, .int a6)] (r := (some bx)) dL_does_204 (by decide) rfl ?_
        refine ag_bipush (-100 : Int32) dL_does_206 (by decide) ?_
        exact agr_iretH (hD166.Z hz_) hf dL_does_208 rfl ⟨show 0 + 11 + 0 ≤ 125 by omega, show 0 + 107 + 0 ≤ 750 by omega⟩
  · rw [if_pos c1] at hf
    refine ag_qload_n 0 dL_does_4 rfl ?_
    refine ag_iload_n 2 dL_does_5 rfl ?_
    obtain ⟨hk_168, hf⟩ := hf
    rcases hf with ⟨v170, h171, q169, hD172, hf⟩ | ⟨h173, q169, hD174, hf⟩ | ⟨h176, q169, hD177, hf⟩ | ⟨h179, q169, hD180, hf⟩
    · refine ag_callV 6 (some t) [.int a2] 1 rfl (LW_ob hk_168) rfl rfl (ctC hD (ctX8_player hl h _ _ q169)) ⟨wl1 (i := 135) rfl rfl, ciX8_player.1, ciX8_player.2.1, ciX8_player.2.2⟩ (wl1 (i := 136) rfl rfl) (wl1 (i := 137) rfl rfl) dL_does_6 rfl rfl (Nat.le_of_ble_eq_true rfl) ⟨Nat.le_of_ble_eq_true rfl, Nat.le_of_ble_eq_true rfl⟩ ⟨show 0 + 2 ≤ 125 by omega, show 0 + 12 ≤ 750 by omega⟩ (fun _ => ?_)
      refine ag_goto 191 dL_does_9 (by decide) ?_
      exact agr_iretH hD172 hf dL_does_191 rfl ⟨show 0 + 2 + 0 ≤ 125 by omega, show 0 + 12 + 0 ≤ 750 by omega⟩
    · refine agw_catch (hh := hhL_does) 6 (some t) [.int a2] 1 [] ⟨0, 191, 192, 51⟩ [⟨0, 191, 198, 53⟩, ⟨0, 191, 204, 55⟩] rfl (fun w hw => by cases hw) (by decide) (by decide) (wl1 (i := 132) rfl rfl) (wm2 (i := 4) rfl) rfl (LW_ob hk_168) rfl rfl (ctC hD (ctX8_player hl h _ _ q169)) ⟨wl1 (i := 135) rfl rfl, ciX8_player.1, ciX8_player.2.1, ciX8_player.2.2⟩ (wl1 (i := 136) rfl rfl) (wl1 (i := 137) rfl rfl) dL_does_6 rfl rfl (Nat.le_of_ble_eq_true rfl) ⟨Nat.le_of_ble_eq_true rfl, Nat.le_of_ble_eq_true rfl⟩ ⟨show 0 + 2 ≤ 125 by omega, show 0 + 12 ≤ 750 by omega⟩ (fun z175 bx hz_ _ => ?_)
      replace hf := hf z175 hz_
      show AWG (xXw hhL_does) (zRH rmL_does g lo (LW g lo h L) K) ML_does rmL_does l g (LW g lo h L) (0 + 2) (0 + 12) (LW g lo (s_Z h173 z175) L) 192 [(0, va_rf (some t)), (1, .int a1), (2, .int a2), (3, .int a3), (4, .int a4), (5, .int a5), (6, .int a6)] [.ref bx]
      refine ag_qstore [(7, va_rf (some bx)), (0, va_rf (some t)), (1, .int a1), (2, .int a2), (3, .int a3), (4, .int a4), (5, .int a5), (6, .int a6)] (r := (some bx)) dL_does_192 (by decide) rfl ?_
      refine ag_sipush (-300 : Int32) dL_does_194 (by decide) ?_
      exact agr_iretH (hD174.Z hz_) hf dL_does_197 rfl ⟨show 0 + 2 + 0 ≤ 125 by omega, show 0 + 12 + 0 ≤ 750 by omega⟩
    · refine agw_catch (hh := hhL_does) 6 (some t) [.int a2] 1 [⟨0, 191, 192, 51⟩] ⟨0, 191, 198, 53⟩ [⟨0, 191, 204, 55⟩] rfl (fun w hw => by simp only [List.mem_cons, List.not_mem_nil, or_false] at hw; subst hw; exact ⟨by decide, "java/lang/IndexOutOfBoundsException", wl1 (i := 132) rfl rfl, by decide⟩) (by decide) (by decide) (wl1 (i := 133) rfl rfl) (wm1 (i := 144) rfl) rfl (LW_ob hk_168) rfl rfl (ctC hD (ctX8_player hl h _ _ q169)) ⟨wl1 (i := 135) rfl rfl, ciX8_player.1, ciX8_player.2.1, ciX8_player.2.2⟩ (wl1 (i := 136) rfl rfl) (wl1 (i := 137) rfl rfl) dL_does_6 rfl rfl (Nat.le_of_ble_eq_true rfl) ⟨Nat.le_of_ble_eq_true rfl, Nat.le_of_ble_eq_true rfl⟩ ⟨show 0 + 2 ≤ 125 by omega, show 0 + 12 ≤ 750 by omega⟩ (fun z178 bx hz_ _ => ?_)
      replace hf := hf z178 hz_
      show AWG (xXw hhL_does) (zRH rmL_does g lo (LW g lo h L) K) ML_does rmL_does l g (LW g lo h L) (0 + 2) (0 + 12) (LW g lo (s_Z h176 z178) L) 198 [(0, va_rf (some t)), (1, .int a1), (2, .int a2), (3, .int a3), (4, .int a4), (5, .int a5), (6, .int a6)] [.ref bx]
      refine ag_qstore [(7, va_rf (some bx)), (0, va_rf (some t)), (1, .int a1), (2, .int a2), (3, .int a3), (4, .int a4), (5, .int a5), (6, .int a6)] (r := (some bx)) dL_does_198 (by decide) rfl ?_
      refine ag_sipush (-200 : Int32) dL_does_200 (by decide) ?_
      exact agr_iretH (hD177.Z hz_) hf dL_does_203 rfl ⟨show 0 + 2 + 0 ≤ 125 by omega, show 0 + 12 + 0 ≤ 750 by omega⟩
    · refine agw_catch (hh := hhL_does) 6 (some t) [.int a2] 1 [⟨0, 191, 192, 51⟩, ⟨0, 191, 198, 53⟩] ⟨0, 191, 204, 55⟩ [] rfl (fun w hw => by simp only [List.mem_cons, List.not_mem_nil, or_false] at hw; rcases hw with rfl | rfl; exact ⟨by decide, "java/lang/IndexOutOfBoundsException", wl1 (i := 132) rfl rfl, by decide⟩; exact ⟨by decide, "java/lang/IllegalArgumentException", wl1 (i := 133) rfl rfl, by decide⟩) (by decide) (by decide) (wl1 (i := 134) rfl rfl) (wm1 (i := 216) rfl) rfl (LW_ob hk_168) rfl rfl (ctC hD (ctX8_player hl h _ _ q169)) ⟨wl1 (i := 135) rfl rfl, ciX8_player.1, ciX8_player.2.1, ciX8_player.2.2⟩ (wl1 (i := 136) rfl rfl) (wl1 (i := 137) rfl rfl) dL_does_6 rfl rfl (Nat.le_of_ble_eq_true rfl) ⟨Nat.le_of_ble_eq_true rfl, Nat.le_of_ble_eq_true rfl⟩ ⟨show 0 + 2 ≤ 125 by omega, show 0 + 12 ≤ 750 by omega⟩ (fun z181 bx hz_ _ => ?_)
      replace hf := hf z181 hz_
      show AWG (xXw hhL_does) (zRH rmL_does g lo (LW g lo h L) K) ML_does rmL_does l g (LW g lo h L) (0 + 2) (0 + 12) (LW g lo (s_Z h179 z181) L) 204 [(0, va_rf (some t)), (1, .int a1), (2, .int a2), (3, .int a3), (4, .int a4), (5, .int a5), (6, .int a6)] [.ref bx]
      refine ag_qstore [(7, va_rf (some bx)), (0, va_rf (some t)), (1, .int a1), (2, .int a2), (3, .int a3), (4, .int a4), (5, .int a5), (6, .int a6)] (r := (some bx)) dL_does_204 (by decide) rfl ?_
      refine ag_bipush (-100 : Int32) dL_does_206 (by decide) ?_
      exact agr_iretH (hD180.Z hz_) hf dL_does_208 rfl ⟨show 0 + 2 + 0 ≤ 125 by omega, show 0 + 12 + 0 ≤ 750 by omega⟩
abbrev ML_asks : xM := (RL, cL_asks, 5, (some .int), "asks")
abbrev rmL_asks : Room := { frames := 8, cells := 2, slots := 12, locals := 135 }
abbrev hhL_asks : List (Nat × Nat × Nat × Nat) := [(0, 128, 129, 51)]
theorem ciL_asks : Cond.codeWith yL_asks cL_asks 5 (some .int) hhL_asks ∈ wt ∧ Cond.initialized yL_asks.cls ∈ wt ∧ (yL_asks.cls ≠ "java/lang/invoke/MethodHandle" ∧ yL_asks.cls ≠ "java/lang/invoke/VarHandle" ∧ (parseMethodDescriptor yL_asks.desc).map (fun d => d.parameters.length) = some 4) := ⟨wl3 (i := 200) rfl rfl, wl1 (i := 0) rfl rfl, by decide +kernel, by decide +kernel, by decide +kernel⟩
def gL_asks (lo t Ls : Nat) (xs : Nat → Int32) (K : Int32 → TH → MS → Prop) (h : TH) (L : MS) (a1 : Int32) (a2 : Int32) (a3 : Int32) : Prop :=
  (if a1 = 0 then (t_kd h t = 7 ∧ ((∃ v84 h85, fX8_rank h t a2 = some (.inl (v84, h85)) ∧ LDp lo h85 ∧ K v84 h85 L) ∨ (∃ h87, fX8_rank h t a2 = some (.inr ("java/lang/IndexOutOfBoundsException", h87)) ∧ LDp lo h87 ∧ ∀ z89, t_sz h87 ≤ z89 → K (-3000 : Int32) (s_Z h87 z89) L))) else (if a1 = (1 : Int32) then (t_kd h t = 7 ∧ ((∃ v76 h77, fX8_state h t a2 = some (.inl (v76, h77)) ∧ LDp lo h77 ∧ K v76 h77 L) ∨ (∃ h79, fX8_state h t a2 = some (.inr ("java/lang/IndexOutOfBoundsException", h79)) ∧ LDp lo h79 ∧ ∀ z81, t_sz h79 ≤ z81 → K (-3000 : Int32) (s_Z h79 z81) L))) else (if a1 = (2 : Int32) then (t_kd h t = 7 ∧ ((∃ v68 h69, fX8_handicap h t a2 = some (.inl (v68, h69)) ∧ LDp lo h69 ∧ K v68 h69 L) ∨ (∃ h71, fX8_handicap h t a2 = some (.inr ("java/lang/IndexOutOfBoundsException", h71)) ∧ LDp lo h71 ∧ ∀ z73, t_sz h71 ≤ z73 → K (-3000 : Int32) (s_Z h71 z73) L))) else (if a1 = (3 : Int32) then (t_kd h t = 7 ∧ ((∃ v60 h61, fX8_sign h t a2 a3 = some (.inl (v60, h61)) ∧ LDp lo h61 ∧ K v60 h61 L) ∨ (∃ h63, fX8_sign h t a2 a3 = some (.inr ("java/lang/IndexOutOfBoundsException", h63)) ∧ LDp lo h63 ∧ ∀ z65, t_sz h63 ≤ z65 → K (-3000 : Int32) (s_Z h63 z65) L))) else (if a1 = (4 : Int32) then (t_kd h t = 7 ∧ ((∃ v52 h53, fX8_clock h t a2 a3 = some (.inl (v52, h53)) ∧ LDp lo h53 ∧ K v52 h53 L) ∨ (∃ h55, fX8_clock h t a2 a3 = some (.inr ("java/lang/IndexOutOfBoundsException", h55)) ∧ LDp lo h55 ∧ ∀ z57, t_sz h55 ≤ z57 → K (-3000 : Int32) (s_Z h55 z57) L))) else (if a1 = (5 : Int32) then (t_kd h t = 7 ∧ ((∃ v44 h45, fX8_score h t a2 = some (.inl (v44, h45)) ∧ LDp lo h45 ∧ K v44 h45 L) ∨ (∃ h47, fX8_score h t a2 = some (.inr ("java/lang/IndexOutOfBoundsException", h47)) ∧ LDp lo h47 ∧ ∀ z49, t_sz h47 ≤ z49 → K (-3000 : Int32) (s_Z h47 z49) L))) else (if a1 = (6 : Int32) then (t_kd h t = 7 ∧ ((∃ v36 h37, fX8_liberties h t a2 a3 = some (.inl (v36, h37)) ∧ LDp lo h37 ∧ K v36 h37 L) ∨ (∃ h39, fX8_liberties h t a2 a3 = some (.inr ("java/lang/IndexOutOfBoundsException", h39)) ∧ LDp lo h39 ∧ ∀ z41, t_sz h39 ≤ z41 → K (-3000 : Int32) (s_Z h39 z41) L))) else (if a1 = (7 : Int32) then (t_kd h t = 7 ∧ ((∃ v28 h29, fX8_flooded h t a2 a3 = some (.inl (v28, h29)) ∧ LDp lo h29 ∧ K v28 h29 L) ∨ (∃ h31, fX8_flooded h t a2 a3 = some (.inr ("java/lang/IndexOutOfBoundsException", h31)) ∧ LDp lo h31 ∧ ∀ z33, t_sz h31 ≤ z33 → K (-3000 : Int32) (s_Z h31 z33) L))) else (if a1 = (8 : Int32) then (t_kd h t = 7 ∧ ((∃ v20 h21, fX8_due h t a2 = some (.inl (v20, h21)) ∧ LDp lo h21 ∧ K v20 h21 L) ∨ (∃ h23, fX8_due h t a2 = some (.inr ("java/lang/IndexOutOfBoundsException", h23)) ∧ LDp lo h23 ∧ ∀ z25, t_sz h23 ≤ z25 → K (-3000 : Int32) (s_Z h23 z25) L))) else (t_kd h t = 7 ∧ ((∃ v12 h13, fX8_node h t a2 = some (.inl (v12, h13)) ∧ LDp lo h13 ∧ K v12 h13 L) ∨ (∃ h15, fX8_node h t a2 = some (.inr ("java/lang/IndexOutOfBoundsException", h15)) ∧ LDp lo h15 ∧ ∀ z17, t_sz h15 ≤ z17 → K (-3000 : Int32) (s_Z h15 z17) L))))))))))))
set_option maxHeartbeats 4000000 in
set_option maxRecDepth 100000 in
theorem ctL_asks {l : Launch} {g : xG} {lo t Ls : Nat} {xs : Nat → Int32} {K : Int32 → TH → MS → Prop} (hl : l.stackTraces = false) (h : TH) (L : MS) (a1 : Int32) (a2 : Int32) (a3 : Int32) (hD : LDp lo h) (hf : gL_asks lo t Ls xs K h L a1 a2 a3) : RTH yL_asks ML_asks hhL_asks rmL_asks l g lo [va_rf (some t), .int a1, .int a2, .int a3] (LW g lo h L) K := by
  rw [gL_asks] at hf
  refine RTH.of (lv0 := [(0, va_rf (some t)), (1, .int a1), (2, .int a2), (3, .int a3)]) (by decide +kernel) rfl rfl (by simp [lg_sl, cat_q, cat_i, cat_l, cat_r]) (by simp [lv_args, cat_q, cat_i, cat_l, cat_r]) hl ?_
  have hc : 0 + 2 ≤ 2 ∧ 0 + 12 ≤ 12 := ⟨by omega, by omega⟩
  refine ag_iload_n 1 dL_asks_0 rfl ?_
  refine ag_if_ne 12 dL_asks_1 (by decide) (fun c1 => ?_) (fun c1 => ?_)
  · rw [if_neg c1] at hf
    refine ag_iload_n 1 dL_asks_12 rfl ?_
    refine ag_iconst (1 : Int32) dL_asks_13 (by decide) ?_
    refine ag_icmp_ne 25 dL_asks_14 (by decide) (fun c2 => ?_) (fun c2 => ?_)
    · rw [if_neg c2] at hf
      refine ag_iload_n 1 dL_asks_25 rfl ?_
      refine ag_iconst (2 : Int32) dL_asks_26 (by decide) ?_
      refine ag_icmp_ne 38 dL_asks_27 (by decide) (fun c3 => ?_) (fun c3 => ?_)
      · rw [if_neg c3] at hf
        refine ag_iload_n 1 dL_asks_38 rfl ?_
        refine ag_iconst (3 : Int32) dL_asks_39 (by decide) ?_
        refine ag_icmp_ne 52 dL_asks_40 (by decide) (fun c4 => ?_) (fun c4 => ?_)
        · rw [if_neg c4] at hf
          refine ag_iload_n 1 dL_asks_52 rfl ?_
          refine ag_iconst (4 : Int32) dL_asks_53 (by decide) ?_
          refine ag_icmp_ne 66 dL_asks_54 (by decide) (fun c5 => ?_) (fun c5 => ?_)
          · rw [if_neg c5] at hf
            refine ag_iload_n 1 dL_asks_66 rfl ?_
            refine ag_iconst (5 : Int32) dL_asks_67 (by decide) ?_
            refine ag_icmp_ne 79 dL_asks_68 (by decide) (fun c6 => ?_) (fun c6 => ?_)
            · rw [if_neg c6] at hf
              refine ag_iload_n 1 dL_asks_79 rfl ?_
              refine ag_bipush (6 : Int32) dL_asks_80 (by decide) ?_
              refine ag_icmp_ne 94 dL_asks_82 (by decide) (fun c7 => ?_) (fun c7 => ?_)
              · rw [if_neg c7] at hf
                refine ag_iload_n 1 dL_asks_94 rfl ?_
                refine ag_bipush (7 : Int32) dL_asks_95 (by decide) ?_
                refine ag_icmp_ne 109 dL_asks_97 (by decide) (fun c8 => ?_) (fun c8 => ?_)
                · rw [if_neg c8] at hf
                  refine ag_iload_n 1 dL_asks_109 rfl ?_
                  refine ag_bipush (8 : Int32) dL_asks_110 (by decide) ?_
                  refine ag_icmp_ne 123 dL_asks_112 (by decide) (fun c9 => ?_) (fun c9 => ?_)
                  · rw [if_neg c9] at hf
                    refine ag_qload_n 0 dL_asks_123 rfl ?_
                    refine ag_iload_n 2 dL_asks_124 rfl ?_
                    obtain ⟨hk_10, hf⟩ := hf
                    rcases hf with ⟨v12, h13, q11, hD14, hf⟩ | ⟨h15, q11, hD16, hf⟩
                    · refine ag_callV 6 (some t) [.int a2] 1 rfl (LW_ob hk_10) rfl rfl (ctC hD (ctX8_node hl h _ _ q11)) ⟨wl4 (i := 22) rfl rfl, ciX8_node.1, ciX8_node.2.1, ciX8_node.2.2⟩ (wl4 (i := 23) rfl rfl) (wl4 (i := 24) rfl rfl) dL_asks_125 rfl rfl (Nat.le_of_ble_eq_true rfl) ⟨Nat.le_of_ble_eq_true rfl, Nat.le_of_ble_eq_true rfl⟩ ⟨show 0 + 1 ≤ 2 by omega, show 0 + 6 ≤ 12 by omega⟩ (fun _ => ?_)
                      exact agr_iretH hD14 hf dL_asks_128 rfl ⟨show 0 + 1 + 0 ≤ 2 by omega, show 0 + 6 + 0 ≤ 12 by omega⟩
                    · refine agw_catch (hh := hhL_asks) 6 (some t) [.int a2] 1 [] ⟨0, 128, 129, 51⟩ [] rfl (fun w hw => by cases hw) (by decide) (by decide) (wl1 (i := 132) rfl rfl) (wm2 (i := 4) rfl) rfl (LW_ob hk_10) rfl rfl (ctC hD (ctX8_node hl h _ _ q11)) ⟨wl4 (i := 22) rfl rfl, ciX8_node.1, ciX8_node.2.1, ciX8_node.2.2⟩ (wl4 (i := 23) rfl rfl) (wl4 (i := 24) rfl rfl) dL_asks_125 rfl rfl (Nat.le_of_ble_eq_true rfl) ⟨Nat.le_of_ble_eq_true rfl, Nat.le_of_ble_eq_true rfl⟩ ⟨show 0 + 1 ≤ 2 by omega, show 0 + 6 ≤ 12 by omega⟩ (fun z17 bx hz_ _ => ?_)
                      replace hf := hf z17 hz_
                      show AWG (xXw hhL_asks) (zRH rmL_asks g lo (LW g lo h L) K) ML_asks rmL_asks l g (LW g lo h L) (0 + 1) (0 + 6) (LW g lo (s_Z h15 z17) L) 129 [(0, va_rf (some t)), (1, .int a1), (2, .int a2), (3, .int a3)] [.ref bx]
                      refine ag_qstore [(4, va_rf (some bx)), (0, va_rf (some t)), (1, .int a1), (2, .int a2), (3, .int a3)] (r := (some bx)) dL_asks_129 (by decide) rfl ?_
                      refine ag_sipush (-3000 : Int32) dL_asks_131 (by decide) ?_
                      exact agr_iretH (hD16.Z hz_) hf dL_asks_134 rfl ⟨show 0 + 1 + 0 ≤ 2 by omega, show 0 + 6 + 0 ≤ 12 by omega⟩
                  · rw [if_pos c9] at hf
                    refine ag_qload_n 0 dL_asks_115 rfl ?_
                    refine ag_iload_n 2 dL_asks_116 rfl ?_
                    obtain ⟨hk_18, hf⟩ := hf
                    rcases hf with ⟨v20, h21, q19, hD22, hf⟩ | ⟨h23, q19, hD24, hf⟩
                    · refine ag_callV 6 (some t) [.int a2] 1 rfl (LW_ob hk_18) rfl rfl (ctC hD (ctX8_due hl h _ _ q19)) ⟨wl4 (i := 17) rfl rfl, ciX8_due.1, ciX8_due.2.1, ciX8_due.2.2⟩ (wl4 (i := 18) rfl rfl) (wl4 (i := 19) rfl rfl) dL_asks_117 rfl rfl (Nat.le_of_ble_eq_true rfl) ⟨Nat.le_of_ble_eq_true rfl, Nat.le_of_ble_eq_true rfl⟩ ⟨show 0 + 1 ≤ 2 by omega, show 0 + 6 ≤ 12 by omega⟩ (fun _ => ?_)
                      refine ag_goto 128 dL_asks_120 (by decide) ?_
                      exact agr_iretH hD22 hf dL_asks_128 rfl ⟨show 0 + 1 + 0 ≤ 2 by omega, show 0 + 6 + 0 ≤ 12 by omega⟩
                    · refine agw_catch (hh := hhL_asks) 6 (some t) [.int a2] 1 [] ⟨0, 128, 129, 51⟩ [] rfl (fun w hw => by cases hw) (by decide) (by decide) (wl1 (i := 132) rfl rfl) (wm2 (i := 4) rfl) rfl (LW_ob hk_18) rfl rfl (ctC hD (ctX8_due hl h _ _ q19)) ⟨wl4 (i := 17) rfl rfl, ciX8_due.1, ciX8_due.2.1, ciX8_due.2.2⟩ (wl4 (i := 18) rfl rfl) (wl4 (i := 19) rfl rfl) dL_asks_117 rfl rfl (Nat.le_of_ble_eq_true rfl) ⟨Nat.le_of_ble_eq_true rfl, Nat.le_of_ble_eq_true rfl⟩ ⟨show 0 + 1 ≤ 2 by omega, show 0 + 6 ≤ 12 by omega⟩ (fun z25 bx hz_ _ => ?_)
                      replace hf := hf z25 hz_
                      show AWG (xXw hhL_asks) (zRH rmL_asks g lo (LW g lo h L) K) ML_asks rmL_asks l g (LW g lo h L) (0 + 1) (0 + 6) (LW g lo (s_Z h23 z25) L) 129 [(0, va_rf (some t)), (1, .int a1), (2, .int a2), (3, .int a3)] [.ref bx]
                      refine ag_qstore [(4, va_rf (some bx)), (0, va_rf (some t)), (1, .int a1), (2, .int a2), (3, .int a3)] (r := (some bx)) dL_asks_129 (by decide) rfl ?_
                      refine ag_sipush (-3000 : Int32) dL_asks_131 (by decide) ?_
                      exact agr_iretH (hD24.Z hz_) hf dL_asks_134 rfl ⟨show 0 + 1 + 0 ≤ 2 by omega, show 0 + 6 + 0 ≤ 12 by omega⟩
                · rw [if_pos c8] at hf
                  refine ag_qload_n 0 dL_asks_100 rfl ?_
                  refine ag_iload_n 2 dL_asks_101 rfl ?_
                  refine ag_iload_n 3 dL_asks_102 rfl ?_
                  obtain ⟨hk_26, hf⟩ := hf
                  rcases hf with ⟨v28, h29, q27, hD30, hf⟩ | ⟨h31, q27, hD32, hf⟩
                  · refine ag_callV 6 (some t) [.int a2, .int a3] 2 rfl (LW_ob hk_26) rfl rfl (ctC hD (ctX8_flooded hl h _ _ _ q27)) ⟨wl4 (i := 5) rfl rfl, ciX8_flooded.1, ciX8_flooded.2.1, ciX8_flooded.2.2⟩ (wl4 (i := 6) rfl rfl) (wl4 (i := 7) rfl rfl) dL_asks_103 rfl rfl (Nat.le_of_ble_eq_true rfl) ⟨Nat.le_of_ble_eq_true rfl, Nat.le_of_ble_eq_true rfl⟩ ⟨show 0 + 2 ≤ 2 by omega, show 0 + 12 ≤ 12 by omega⟩ (fun _ => ?_)
                    refine ag_goto 128 dL_asks_106 (by decide) ?_
                    exact agr_iretH hD30 hf dL_asks_128 rfl ⟨show 0 + 2 + 0 ≤ 2 by omega, show 0 + 12 + 0 ≤ 12 by omega⟩
                  · refine agw_catch (hh := hhL_asks) 6 (some t) [.int a2, .int a3] 2 [] ⟨0, 128, 129, 51⟩ [] rfl (fun w hw => by cases hw) (by decide) (by decide) (wl1 (i := 132) rfl rfl) (wm2 (i := 4) rfl) rfl (LW_ob hk_26) rfl rfl (ctC hD (ctX8_flooded hl h _ _ _ q27)) ⟨wl4 (i := 5) rfl rfl, ciX8_flooded.1, ciX8_flooded.2.1, ciX8_flooded.2.2⟩ (wl4 (i := 6) rfl rfl) (wl4 (i := 7) rfl rfl) dL_asks_103 rfl rfl (Nat.le_of_ble_eq_true rfl) ⟨Nat.le_of_ble_eq_true rfl, Nat.le_of_ble_eq_true rfl⟩ ⟨show 0 + 2 ≤ 2 by omega, show 0 + 12 ≤ 12 by omega⟩ (fun z33 bx hz_ _ => ?_)
                    replace hf := hf z33 hz_
                    show AWG (xXw hhL_asks) (zRH rmL_asks g lo (LW g lo h L) K) ML_asks rmL_asks l g (LW g lo h L) (0 + 2) (0 + 12) (LW g lo (s_Z h31 z33) L) 129 [(0, va_rf (some t)), (1, .int a1), (2, .int a2), (3, .int a3)] [.ref bx]
                    refine ag_qstore [(4, va_rf (some bx)), (0, va_rf (some t)), (1, .int a1), (2, .int a2), (3, .int a3)] (r := (some bx)) dL_asks_129 (by decide) rfl ?_
                    refine ag_sipush (-3000 : Int32) dL_asks_131 (by decide) ?_
                    exact agr_iretH (hD32.Z hz_) hf dL_asks_134 rfl ⟨show 0 + 2 + 0 ≤ 2 by omega, show 0 + 12 + 0 ≤ 12 by omega⟩
              · rw [if_pos c7] at hf
                refine ag_qload_n 0 dL_asks_85 rfl ?_
                refine ag_iload_n 2 dL_asks_86 rfl ?_
                refine ag_iload_n 3 dL_asks_87 rfl ?_
                obtain ⟨hk_34, hf⟩ := hf
                rcases hf with ⟨v36, h37, q35, hD38, hf⟩ | ⟨h39, q35, hD40, hf⟩
                · refine ag_callV 6 (some t) [.int a2, .int a3] 2 rfl (LW_ob hk_34) rfl rfl (ctC hD (ctX8_liberties hl h _ _ _ q35)) ⟨wl3 (i := 237) rfl rfl, ciX8_liberties.1, ciX8_liberties.2.1, ciX8_liberties.2.2⟩ (wl3 (i := 238) rfl rfl) (wl3 (i := 239) rfl rfl) dL_asks_88 rfl rfl (Nat.le_of_ble_eq_true rfl) ⟨Nat.le_of_ble_eq_true rfl, Nat.le_of_ble_eq_true rfl⟩ ⟨show 0 + 2 ≤ 2 by omega, show 0 + 12 ≤ 12 by omega⟩ (fun _ => ?_)
                  refine ag_goto 128 dL_asks_91 (by decide) ?_
                  exact agr_iretH hD38 hf dL_asks_128 rfl ⟨show 0 + 2 + 0 ≤ 2 by omega, show 0 + 12 + 0 ≤ 12 by omega⟩
                · refine agw_catch (hh := hhL_asks) 6 (some t) [.int a2, .int a3] 2 [] ⟨0, 128, 129, 51⟩ [] rfl (fun w hw => by cases hw) (by decide) (by decide) (wl1 (i := 132) rfl rfl) (wm2 (i := 4) rfl) rfl (LW_ob hk_34) rfl rfl (ctC hD (ctX8_liberties hl h _ _ _ q35)) ⟨wl3 (i := 237) rfl rfl, ciX8_liberties.1, ciX8_liberties.2.1, ciX8_liberties.2.2⟩ (wl3 (i := 238) rfl rfl) (wl3 (i := 239) rfl rfl) dL_asks_88 rfl rfl (Nat.le_of_ble_eq_true rfl) ⟨Nat.le_of_ble_eq_true rfl, Nat.le_of_ble_eq_true rfl⟩ ⟨show 0 + 2 ≤ 2 by omega, show 0 + 12 ≤ 12 by omega⟩ (fun z41 bx hz_ _ => ?_)
                  replace hf := hf z41 hz_
                  show AWG (xXw hhL_asks) (zRH rmL_asks g lo (LW g lo h L) K) ML_asks rmL_asks l g (LW g lo h L) (0 + 2) (0 + 12) (LW g lo (s_Z h39 z41) L) 129 [(0, va_rf (some t)), (1, .int a1), (2, .int a2), (3, .int a3)] [.ref bx]
                  refine ag_qstore [(4, va_rf (some bx)), (0, va_rf (some t)), (1, .int a1), (2, .int a2), (3, .int a3)] (r := (some bx)) dL_asks_129 (by decide) rfl ?_
                  refine ag_sipush (-3000 : Int32) dL_asks_131 (by decide) ?_
                  exact agr_iretH (hD40.Z hz_) hf dL_asks_134 rfl ⟨show 0 + 2 + 0 ≤ 2 by omega, show 0 + 12 + 0 ≤ 12 by omega⟩
            · rw [if_pos c6] at hf
              refine ag_qload_n 0 dL_asks_71 rfl ?_
              refine ag_iload_n 2 dL_asks_72 rfl ?_
              obtain ⟨hk_42, hf⟩ := hf
              rcases hf with ⟨v44, h45, q43, hD46, hf⟩ | ⟨h47, q43, hD48, hf⟩
              · refine ag_callV 6 (some t) [.int a2] 1 rfl (LW_ob hk_42) rfl rfl (ctC hD (ctX8_score hl h _ _ q43)) ⟨wl3 (i := 232) rfl rfl, ciX8_score.1, ciX8_score.2.1, ciX8_score.2.2⟩ (wl3 (i := 233) rfl rfl) (wl3 (i := 234) rfl rfl) dL_asks_73 rfl rfl (Nat.le_of_ble_eq_true rfl) ⟨Nat.le_of_ble_eq_true rfl, Nat.le_of_ble_eq_true rfl⟩ ⟨show 0 + 1 ≤ 2 by omega, show 0 + 6 ≤ 12 by omega⟩ (fun _ => ?_)
                refine ag_goto 128 dL_asks_76 (by decide) ?_
                exact agr_iretH hD46 hf dL_asks_128 rfl ⟨show 0 + 1 + 0 ≤ 2 by omega, show 0 + 6 + 0 ≤ 12 by omega⟩
              · refine agw_catch (hh := hhL_asks) 6 (some t) [.int a2] 1 [] ⟨0, 128, 129, 51⟩ [] rfl (fun w hw => by cases hw) (by decide) (by decide) (wl1 (i := 132) rfl rfl) (wm2 (i := 4) rfl) rfl (LW_ob hk_42) rfl rfl (ctC hD (ctX8_score hl h _ _ q43)) ⟨wl3 (i := 232) rfl rfl, ciX8_score.1, ciX8_score.2.1, ciX8_score.2.2⟩ (wl3 (i := 233) rfl rfl) (wl3 (i := 234) rfl rfl) dL_asks_73 rfl rfl (Nat.le_of_ble_eq_true rfl) ⟨Nat.le_of_ble_eq_true rfl, Nat.le_of_ble_eq_true rfl⟩ ⟨show 0 + 1 ≤ 2 by omega, show 0 + 6 ≤ 12 by omega⟩ (fun z49 bx hz_ _ => ?_)
                replace hf := hf z49 hz_
                show AWG (xXw hhL_asks) (zRH rmL_asks g lo (LW g lo h L) K) ML_asks rmL_asks l g (LW g lo h L) (0 + 1) (0 + 6) (LW g lo (s_Z h47 z49) L) 129 [(0, va_rf (some t)), (1, .int a1), (2, .int a2), (3, .int a3)] [.ref bx]
                refine ag_qstore [(4, va_rf (some bx)), (0, va_rf (some t)), (1, .int a1), (2, .int a2), (3, .int a3)] (r := (some bx)) dL_asks_129 (by decide) rfl ?_
                refine ag_sipush (-3000 : Int32) dL_asks_131 (by decide) ?_
                exact agr_iretH (hD48.Z hz_) hf dL_asks_134 rfl ⟨show 0 + 1 + 0 ≤ 2 by omega, show 0 + 6 + 0 ≤ 12 by omega⟩
          · rw [if_pos c5] at hf
            refine ag_qload_n 0 dL_asks_57 rfl ?_
            refine ag_iload_n 2 dL_asks_58 rfl ?_
            refine ag_iload_n 3 dL_asks_59 rfl ?_
            obtain ⟨hk_50, hf⟩ := hf
            rcases hf with ⟨v52, h53, q51, hD54, hf⟩ | ⟨h55, q51, hD56, hf⟩
            · refine ag_callV 6 (some t) [.int a2, .int a3] 2 rfl (LW_ob hk_50) rfl rfl (ctC hD (ctX8_clock hl h _ _ _ q51)) ⟨wl3 (i := 222) rfl rfl, ciX8_clock.1, ciX8_clock.2.1, ciX8_clock.2.2⟩ (wl3 (i := 223) rfl rfl) (wl3 (i := 224) rfl rfl) dL_asks_60 rfl rfl (Nat.le_of_ble_eq_true rfl) ⟨Nat.le_of_ble_eq_true rfl, Nat.le_of_ble_eq_true rfl⟩ ⟨show 0 + 2 ≤ 2 by omega, show 0 + 12 ≤ 12 by omega⟩ (fun _ => ?_)
              refine ag_goto 128 dL_asks_63 (by decide) ?_
              exact agr_iretH hD54 hf dL_asks_128 rfl ⟨show 0 + 2 + 0 ≤ 2 by omega, show 0 + 12 + 0 ≤ 12 by omega⟩
            · refine agw_catch (hh := hhL_asks) 6 (some t) [.int a2, .int a3] 2 [] ⟨0, 128, 129, 51⟩ [] rfl (fun w hw => by cases hw) (by decide) (by decide) (wl1 (i := 132) rfl rfl) (wm2 (i := 4) rfl) rfl (LW_ob hk_50) rfl rfl (ctC hD (ctX8_clock hl h _ _ _ q51)) ⟨wl3 (i := 222) rfl rfl, ciX8_clock.1, ciX8_clock.2.1, ciX8_clock.2.2⟩ (wl3 (i := 223) rfl rfl) (wl3 (i := 224) rfl rfl) dL_asks_60 rfl rfl (Nat.le_of_ble_eq_true rfl) ⟨Nat.le_of_ble_eq_true rfl, Nat.le_of_ble_eq_true rfl⟩ ⟨show 0 + 2 ≤ 2 by omega, show 0 + 12 ≤ 12 by omega⟩ (fun z57 bx hz_ _ => ?_)
              replace hf := hf z57 hz_
              show AWG (xXw hhL_asks) (zRH rmL_asks g lo (LW g lo h L) K) ML_asks rmL_asks l g (LW g lo h L) (0 + 2) (0 + 12) (LW g lo (s_Z h55 z57) L) 129 [(0, va_rf (some t)), (1, .int a1), (2, .int a2), (3, .int a3)] [.ref bx]
              refine ag_qstore [(4, va_rf (some bx)), (0, va_rf (some t)), (1, .int a1), (2, .int a2), (3, .int a3)] (r := (some bx)) dL_asks_129 (by decide) rfl ?_
              refine ag_sipush (-3000 : Int32) dL_asks_131 (by decide) ?_
              exact agr_iretH (hD56.Z hz_) hf dL_asks_134 rfl ⟨show 0 + 2 + 0 ≤ 2 by omega, show 0 + 12 + 0 ≤ 12 by omega⟩
        · rw [if_pos c4] at hf
          refine ag_qload_n 0 dL_asks_43 rfl ?_
          refine ag_iload_n 2 dL_asks_44 rfl ?_
          refine ag_iload_n 3 dL_asks_45 rfl ?_
          obtain ⟨hk_58, hf⟩ := hf
          rcases hf with ⟨v60, h61, q59, hD62, hf⟩ | ⟨h63, q59, hD64, hf⟩
          · refine ag_callV 6 (some t) [.int a2, .int a3] 2 rfl (LW_ob hk_58) rfl rfl (ctC hD (ctX8_sign hl h _ _ _ q59)) ⟨wl3 (i := 214) rfl rfl, ciX8_sign.1, ciX8_sign.2.1, ciX8_sign.2.2⟩ (wl3 (i := 215) rfl rfl) (wl3 (i := 216) rfl rfl) dL_asks_46 rfl rfl (Nat.le_of_ble_eq_true rfl) ⟨Nat.le_of_ble_eq_true rfl, Nat.le_of_ble_eq_true rfl⟩ ⟨show 0 + 2 ≤ 2 by omega, show 0 + 12 ≤ 12 by omega⟩ (fun _ => ?_)
            refine ag_goto 128 dL_asks_49 (by decide) ?_
            exact agr_iretH hD62 hf dL_asks_128 rfl ⟨show 0 + 2 + 0 ≤ 2 by omega, show 0 + 12 + 0 ≤ 12 by omega⟩
          · refine agw_catch (hh := hhL_asks) 6 (some t) [.int a2, .int a3] 2 [] ⟨0, 128, 129, 51⟩ [] rfl (fun w hw => by cases hw) (by decide) (by decide) (wl1 (i := 132) rfl rfl) (wm2 (i := 4) rfl) rfl (LW_ob hk_58) rfl rfl (ctC hD (ctX8_sign hl h _ _ _ q59)) ⟨wl3 (i := 214) rfl rfl, ciX8_sign.1, ciX8_sign.2.1, ciX8_sign.2.2⟩ (wl3 (i := 215) rfl rfl) (wl3 (i := 216) rfl rfl) dL_asks_46 rfl rfl (Nat.le_of_ble_eq_true rfl) ⟨Nat.le_of_ble_eq_true rfl, Nat.le_of_ble_eq_true rfl⟩ ⟨show 0 + 2 ≤ 2 by omega, show 0 + 12 ≤ 12 by omega⟩ (fun z65 bx hz_ _ => ?_)
            replace hf := hf z65 hz_
            show AWG (xXw hhL_asks) (zRH rmL_asks g lo (LW g lo h L) K) ML_asks rmL_asks l g (LW g lo h L) (0 + 2) (0 + 12) (LW g lo (s_Z h63 z65) L) 129 [(0, va_rf (some t)), (1, .int a1), (2, .int a2), (3, .int a3)] [.ref bx]
            refine ag_qstore [(4, va_rf (some bx)), (0, va_rf (some t)), (1, .int a1), (2, .int a2), (3, .int a3)] (r := (some bx)) dL_asks_129 (by decide) rfl ?_
            refine ag_sipush (-3000 : Int32) dL_asks_131 (by decide) ?_
            exact agr_iretH (hD64.Z hz_) hf dL_asks_134 rfl ⟨show 0 + 2 + 0 ≤ 2 by omega, show 0 + 12 + 0 ≤ 12 by omega⟩
      · rw [if_pos c3] at hf
        refine ag_qload_n 0 dL_asks_30 rfl ?_
        refine ag_iload_n 2 dL_asks_31 rfl ?_
        obtain ⟨hk_66, hf⟩ := hf
        rcases hf with ⟨v68, h69, q67, hD70, hf⟩ | ⟨h71, q67, hD72, hf⟩
        · refine ag_callV 6 (some t) [.int a2] 1 rfl (LW_ob hk_66) rfl rfl (ctC hD (ctX8_handicap hl h _ _ q67)) ⟨wl3 (i := 210) rfl rfl, ciX8_handicap.1, ciX8_handicap.2.1, ciX8_handicap.2.2⟩ (wl3 (i := 211) rfl rfl) (wl3 (i := 212) rfl rfl) dL_asks_32 rfl rfl (Nat.le_of_ble_eq_true rfl) ⟨Nat.le_of_ble_eq_true rfl, Nat.le_of_ble_eq_true rfl⟩ ⟨show 0 + 1 ≤ 2 by omega, show 0 + 6 ≤ 12 by omega⟩ (fun _ => ?_)
          refine ag_goto 128 dL_asks_35 (by decide) ?_
          exact agr_iretH hD70 hf dL_asks_128 rfl ⟨show 0 + 1 + 0 ≤ 2 by omega, show 0 + 6 + 0 ≤ 12 by omega⟩
        · refine agw_catch (hh := hhL_asks) 6 (some t) [.int a2] 1 [] ⟨0, 128, 129, 51⟩ [] rfl (fun w hw => by cases hw) (by decide) (by decide) (wl1 (i := 132) rfl rfl) (wm2 (i := 4) rfl) rfl (LW_ob hk_66) rfl rfl (ctC hD (ctX8_handicap hl h _ _ q67)) ⟨wl3 (i := 210) rfl rfl, ciX8_handicap.1, ciX8_handicap.2.1, ciX8_handicap.2.2⟩ (wl3 (i := 211) rfl rfl) (wl3 (i := 212) rfl rfl) dL_asks_32 rfl rfl (Nat.le_of_ble_eq_true rfl) ⟨Nat.le_of_ble_eq_true rfl, Nat.le_of_ble_eq_true rfl⟩ ⟨show 0 + 1 ≤ 2 by omega, show 0 + 6 ≤ 12 by omega⟩ (fun z73 bx hz_ _ => ?_)
          replace hf := hf z73 hz_
          show AWG (xXw hhL_asks) (zRH rmL_asks g lo (LW g lo h L) K) ML_asks rmL_asks l g (LW g lo h L) (0 + 1) (0 + 6) (LW g lo (s_Z h71 z73) L) 129 [(0, va_rf (some t)), (1, .int a1), (2, .int a2), (3, .int a3)] [.ref bx]
          refine ag_qstore [(4, va_rf (some bx)), (0, va_rf (some t)), (1, .int a1), (2, .int a2), (3, .int a3)] (r := (some bx)) dL_asks_129 (by decide) rfl ?_
          refine ag_sipush (-3000 : Int32) dL_asks_131 (by decide) ?_
          exact agr_iretH (hD72.Z hz_) hf dL_asks_134 rfl ⟨show 0 + 1 + 0 ≤ 2 by omega, show 0 + 6 + 0 ≤ 12 by omega⟩
    · rw [if_pos c2] at hf
      refine ag_qload_n 0 dL_asks_17 rfl ?_
      refine ag_iload_n 2 dL_asks_18 rfl ?_
      obtain ⟨hk_74, hf⟩ := hf
      rcases hf with ⟨v76, h77, q75, hD78, hf⟩ | ⟨h79, q75, hD80, hf⟩
      · refine ag_callV 6 (some t) [.int a2] 1 rfl (LW_ob hk_74) rfl rfl (ctC hD (ctX8_state hl h _ _ q75)) ⟨wl3 (i := 206) rfl rfl, ciX8_state.1, ciX8_state.2.1, ciX8_state.2.2⟩ (wl3 (i := 207) rfl rfl) (wl3 (i := 208) rfl rfl) dL_asks_19 rfl rfl (Nat.le_of_ble_eq_true rfl) ⟨Nat.le_of_ble_eq_true rfl, Nat.le_of_ble_eq_true rfl⟩ ⟨show 0 + 1 ≤ 2 by omega, show 0 + 6 ≤ 12 by omega⟩ (fun _ => ?_)
        refine ag_goto 128 dL_asks_22 (by decide) ?_
        exact agr_iretH hD78 hf dL_asks_128 rfl ⟨show 0 + 1 + 0 ≤ 2 by omega, show 0 + 6 + 0 ≤ 12 by omega⟩
      · refine agw_catch (hh := hhL_asks) 6 (some t) [.int a2] 1 [] ⟨0, 128, 129, 51⟩ [] rfl (fun w hw => by cases hw) (by decide) (by decide) (wl1 (i := 132) rfl rfl) (wm2 (i := 4) rfl) rfl (LW_ob hk_74) rfl rfl (ctC hD (ctX8_state hl h _ _ q75)) ⟨wl3 (i := 206) rfl rfl, ciX8_state.1, ciX8_state.2.1, ciX8_state.2.2⟩ (wl3 (i := 207) rfl rfl) (wl3 (i := 208) rfl rfl) dL_asks_19 rfl rfl (Nat.le_of_ble_eq_true rfl) ⟨Nat.le_of_ble_eq_true rfl, Nat.le_of_ble_eq_true rfl⟩ ⟨show 0 + 1 ≤ 2 by omega, show 0 + 6 ≤ 12 by omega⟩ (fun z81 bx hz_ _ => ?_)
        replace hf := hf z81 hz_
        show AWG (xXw hhL_asks) (zRH rmL_asks g lo (LW g lo h L) K) ML_asks rmL_asks l g (LW g lo h L) (0 + 1) (0 + 6) (LW g lo (s_Z h79 z81) L) 129 [(0, va_rf (some t)), (1, .int a1), (2, .int a2), (3, .int a3)] [.ref bx]
        refine ag_qstore [(4, va_rf (some bx)), (0, va_rf (some t)), (1, .int a1), (2, .int a2), (3, .int a3)] (r := (some bx)) dL_asks_129 (by decide) rfl ?_
        refine ag_sipush (-3000 : Int32) dL_asks_131 (by decide) ?_
        exact agr_iretH (hD80.Z hz_) hf dL_asks_134 rfl ⟨show 0 + 1 + 0 ≤ 2 by omega, show 0 + 6 + 0 ≤ 12 by omega⟩
  · rw [if_pos c1] at hf
    refine ag_qload_n 0 dL_asks_4 rfl ?_
    refine ag_iload_n 2 dL_asks_5 rfl ?_
    obtain ⟨hk_82, hf⟩ := hf
    rcases hf with ⟨v84, h85, q83, hD86, hf⟩ | ⟨h87, q83, hD88, hf⟩
    · refine ag_callV 6 (some t) [.int a2] 1 rfl (LW_ob hk_82) rfl rfl (ctC hD (ctX8_rank hl h _ _ q83)) ⟨wl3 (i := 201) rfl rfl, ciX8_rank.1, ciX8_rank.2.1, ciX8_rank.2.2⟩ (wl3 (i := 202) rfl rfl) (wl3 (i := 203) rfl rfl) dL_asks_6 rfl rfl (Nat.le_of_ble_eq_true rfl) ⟨Nat.le_of_ble_eq_true rfl, Nat.le_of_ble_eq_true rfl⟩ ⟨show 0 + 1 ≤ 2 by omega, show 0 + 6 ≤ 12 by omega⟩ (fun _ => ?_)
      refine ag_goto 128 dL_asks_9 (by decide) ?_
      exact agr_iretH hD86 hf dL_asks_128 rfl ⟨show 0 + 1 + 0 ≤ 2 by omega, show 0 + 6 + 0 ≤ 12 by omega⟩
    · refine agw_catch (hh := hhL_asks) 6 (some t) [.int a2] 1 [] ⟨0, 128, 129, 51⟩ [] rfl (fun w hw => by cases hw) (by decide) (by decide) (wl1 (i := 132) rfl rfl) (wm2 (i := 4) rfl) rfl (LW_ob hk_82) rfl rfl (ctC hD (ctX8_rank hl h _ _ q83)) ⟨wl3 (i := 201) rfl rfl, ciX8_rank.1, ciX8_rank.2.1, ciX8_rank.2.2⟩ (wl3 (i := 202) rfl rfl) (wl3 (i := 203) rfl rfl) dL_asks_6 rfl rfl (Nat.le_of_ble_eq_true rfl) ⟨Nat.le_of_ble_eq_true rfl, Nat.le_of_ble_eq_true rfl⟩ ⟨show 0 + 1 ≤ 2 by omega, show 0 + 6 ≤ 12 by omega⟩ (fun z89 bx hz_ _ => ?_)
      replace hf := hf z89 hz_
      show AWG (xXw hhL_asks) (zRH rmL_asks g lo (LW g lo h L) K) ML_asks rmL_asks l g (LW g lo h L) (0 + 1) (0 + 6) (LW g lo (s_Z h87 z89) L) 129 [(0, va_rf (some t)), (1, .int a1), (2, .int a2), (3, .int a3)] [.ref bx]
      refine ag_qstore [(4, va_rf (some bx)), (0, va_rf (some t)), (1, .int a1), (2, .int a2), (3, .int a3)] (r := (some bx)) dL_asks_129 (by decide) rfl ?_
      refine ag_sipush (-3000 : Int32) dL_asks_131 (by decide) ?_
      exact agr_iretH (hD88.Z hz_) hf dL_asks_134 rfl ⟨show 0 + 1 + 0 ≤ 2 by omega, show 0 + 6 + 0 ≤ 12 by omega⟩
