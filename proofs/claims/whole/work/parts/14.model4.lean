abbrev MX9_game : xM := (RX9, cX9_game, 9, (some .int), "game")
abbrev rmX9_game : Room := { frames := 2, cells := 0, slots := 0, locals := 44 }
theorem ciX9_game : Cond.code yX9_game cX9_game 9 (some .int) ∈ wt ∧ Cond.initialized yX9_game.cls ∈ wt ∧ (yX9_game.cls ≠ "java/lang/invoke/MethodHandle" ∧ yX9_game.cls ≠ "java/lang/invoke/VarHandle" ∧ (parseMethodDescriptor yX9_game.desc).map (fun d => d.parameters.length) = some 5) := ⟨wl5 (i := 31) rfl rfl, wl1 (i := 4) rfl rfl, by decide +kernel, by decide +kernel, by decide +kernel⟩
def fX9_game_250 : Nat → MS → Int32 → Int32 → Int32 → Option (Int32 × MS)
  | 0, _, _, _, _ => none
  | n + 1, S, a3, a4, a8 =>
    (if (2 : Int32) ≤ a8 then some (((m_i (ms_i S 4 ((m_i S 4) + (1 : Int32))) 4) - (1 : Int32)), (ms_i S 4 ((m_i S 4) + (1 : Int32)))) else (if xin (((2 : Int32) * (m_i S 4)) + a8) 32 = true then (if xin (((2 : Int32) * (m_i (ms_I S 14 (((2 : Int32) * (m_i S 4)) + a8).toNatClampNeg a3) 4)) + a8) 32 = true then (some (ms_I (ms_I S 14 (((2 : Int32) * (m_i S 4)) + a8).toNatClampNeg a3) 15 (((2 : Int32) * (m_i (ms_I S 14 (((2 : Int32) * (m_i S 4)) + a8).toNatClampNeg a3) 4)) + a8).toNatClampNeg a4)).bind fun W4 => fX9_game_250 n W4 a3 a4 (a8 + (1 : Int32)) else none) else none))
set_option maxHeartbeats 4000000 in
set_option maxRecDepth 100000 in
theorem wkX9_game_250 {l : Launch} {g : xG} {x0 : xV} {mo sz : Nat} (hl : l.stackTraces = false) {r : Int32 × MS} : ∀ (n : Nat) (S : MS) (a3 : Int32) (a4 : Int32) (a8 : Int32), fX9_game_250 n S a3 a4 a8 = some r → AW MX9_game rmX9_game l g x0 (.inl (some (.int r.1))) (moE g mo sz r.2) 0 0 (moE g mo sz S) 250 [(0, .ref mo), (3, .int a3), (4, .int a4), (8, .int a8)] [] := by
  intro n
  induction n with
  | zero => intro S a3 a4 a8 hf; exact absurd hf (by simp [fX9_game_250])
  | succ n hk250 =>
    intro S a3 a4 a8 hf
    rw [fX9_game_250] at hf
    refine aw_iload 3 dX9_game_250 rfl ?_
    refine aw_iconst (2 : Int32) dX9_game_252 (by decide) ?_
    refine aw_icmp_ge 293 dX9_game_253 (by decide) (fun c1 => ?_) (fun c1 => ?_)
    · rw [if_pos c1] at hf
      refine aw_aload_n 0 dX9_game_293 rfl ?_
      refine aw_dup dX9_game_294 rfl ?_
      refine mo_getI 4 rfl (by decide) (wl4 (i := 102) rfl rfl) dX9_game_295 ?_
      refine aw_iconst (1 : Int32) dX9_game_298 (by decide) ?_
      refine aw_iadd dX9_game_299 ?_
      refine mo_putI 4 rfl (by decide) rfl rfl rfl rfl (wl4 (i := 102) rfl rfl) dX9_game_300 ?_
      refine aw_aload_n 0 dX9_game_303 rfl ?_
      refine mo_getI 4 rfl (by decide) (wl4 (i := 102) rfl rfl) dX9_game_304 ?_
      refine aw_iconst (1 : Int32) dX9_game_307 (by decide) ?_
      refine aw_isub dX9_game_308 ?_
      cases hf
      exact aw_iret dX9_game_309 rfl rfl rfl ⟨Nat.le_of_ble_eq_true rfl, Nat.le_of_ble_eq_true rfl⟩
    · rw [if_neg c1] at hf
      refine aw_aload_n 0 dX9_game_256 rfl ?_
      refine mo_getR 16 14 rfl (by decide) (wl4 (i := 114) rfl rfl) dX9_game_257 ?_
      refine aw_iconst (2 : Int32) dX9_game_260 (by decide) ?_
      refine aw_aload_n 0 dX9_game_261 rfl ?_
      refine mo_getI 4 rfl (by decide) (wl4 (i := 102) rfl rfl) dX9_game_262 ?_
      refine aw_imul dX9_game_265 ?_
      refine aw_iload 3 dX9_game_266 rfl ?_
      refine aw_iadd dX9_game_268 ?_
      refine aw_iload_n 1 dX9_game_269 rfl ?_
      obtain ⟨hi2, hf⟩ := xifn hf
      refine mo_iast 14 32 rfl (xin_v hi2) dX9_game_270 ?_
      refine aw_aload_n 0 dX9_game_271 rfl ?_
      refine mo_getR 17 15 rfl (by decide) (wl4 (i := 115) rfl rfl) dX9_game_272 ?_
      refine aw_iconst (2 : Int32) dX9_game_275 (by decide) ?_
      refine aw_aload_n 0 dX9_game_276 rfl ?_
      refine mo_getI 4 rfl (by decide) (wl4 (i := 102) rfl rfl) dX9_game_277 ?_
      refine aw_imul dX9_game_280 ?_
      refine aw_iload 3 dX9_game_281 rfl ?_
      refine aw_iadd dX9_game_283 ?_
      refine aw_iload 2 dX9_game_284 rfl ?_
      obtain ⟨hi3, hf⟩ := xifn hf
      obtain ⟨W4, hW4, hf⟩ := xlet hf
      refine mo_iast 15 32 rfl (xin_v hi3) dX9_game_286 ?_
      rw [hW4]
      refine aw_iinc [(8, .int (a8 + (1 : Int32))), (0, .ref mo), (3, .int a3), (4, .int a4)] 3 dX9_game_287 rfl rfl (by decide) rfl ?_
      refine aw_goto 250 dX9_game_290 (by decide) ?_
      refine aw_lv [1, 2, 3, 0] rfl ?_
      exact hk250 _ _ _ _ hf
def fX9_game_116 (S : MS) (a1 : Int32) (a2 : Int32) (a3 : Int32) (a4 : Int32) (a5 : Int32) (s1 : Int32) : Option (Int32 × MS) :=
  (fX9_fails S s1).bind fun q1 => (if q1.1 = false then (if xin (m_i q1.2 4) 16 = true then (if xin (m_i (ms_I q1.2 3 (m_i q1.2 4).toNatClampNeg a1) 4) 16 = true then (some (ms_I (ms_I q1.2 3 (m_i q1.2 4).toNatClampNeg a1) 4 (m_i (ms_I q1.2 3 (m_i q1.2 4).toNatClampNeg a1) 4).toNatClampNeg a2)).bind fun W5 => (fX9_blackOf W5 a1 a2).bind fun q6 => (if xin (m_i W5 4) 16 = true then (if xin (m_i (ms_I W5 5 (m_i W5 4).toNatClampNeg q6) 4) 16 = true then (some (ms_I (ms_I W5 5 (m_i W5 4).toNatClampNeg q6) 6 (m_i (ms_I W5 5 (m_i W5 4).toNatClampNeg q6) 4).toNatClampNeg ((a1 + a2) - (m_I (ms_I W5 5 (m_i W5 4).toNatClampNeg q6) 5 (m_i (ms_I W5 5 (m_i W5 4).toNatClampNeg q6) 4).toNatClampNeg)))).bind fun W9 => (fX9_handicapOf W9 a1 a2).bind fun q10 => (if xin (m_i W9 4) 16 = true then (if xin (m_i (ms_I W9 7 (m_i W9 4).toNatClampNeg q10) 4) 16 = true then (some (ms_I (ms_I W9 7 (m_i W9 4).toNatClampNeg q10) 10 (m_i (ms_I W9 7 (m_i W9 4).toNatClampNeg q10) 4).toNatClampNeg (m_i (ms_I W9 7 (m_i W9 4).toNatClampNeg q10) 19))).bind fun W13 => (if xin (m_i W13 4) 16 = true then (fX9_stones (m_I W13 7 (m_i W13 4).toNatClampNeg)).bind fun q15 => (fX9_keeps W13 q15 (0 : Int64) (-1 : Int32)).bind fun q16 => (if xin (m_i (ms_I q16.2 11 (m_i W13 4).toNatClampNeg q16.1) 4) 16 = true then (some (ms_I (ms_I q16.2 11 (m_i W13 4).toNatClampNeg q16.1) 16 (m_i (ms_I q16.2 11 (m_i W13 4).toNatClampNeg q16.1) 4).toNatClampNeg a5)).bind fun W18 => fX9_game_250 FU W18 a3 a4 (0 : Int32) else none) else none) else none) else none) else none) else none) else none) else none) else some ((0 : Int32), q1.2))
set_option maxHeartbeats 4000000 in
set_option maxRecDepth 100000 in
theorem wkX9_game_116 {l : Launch} {g : xG} {x0 : xV} {mo sz : Nat} (hl : l.stackTraces = false) {r : Int32 × MS} (S : MS) (a1 : Int32) (a2 : Int32) (a3 : Int32) (a4 : Int32) (a5 : Int32) (s1 : Int32) (hf : fX9_game_116 S a1 a2 a3 a4 a5 s1 = some r) : AW MX9_game rmX9_game l g x0 (.inl (some (.int r.1))) (moE g mo sz r.2) 0 0 (moE g mo sz S) 116 [(0, .ref mo), (1, .int a1), (2, .int a2), (3, .int a3), (4, .int a4), (5, .int a5)] [.int s1, .ref mo] := by
  rw [fX9_game_116] at hf
  obtain ⟨q1, hq1, hf⟩ := xbind hf
  refine aw_callV 7 (some mo) [.int s1] 1 rfl mo_ob rfl rfl (ctX9_fails hl _ _ hq1) ⟨wl5 (i := 16) rfl rfl, ciX9_fails⟩ (wl5 (i := 18) rfl rfl) (wl0 (i := 19) rfl rfl) dX9_game_116 rfl rfl (Nat.le_of_ble_eq_true rfl) ⟨Nat.le_of_ble_eq_true rfl, Nat.le_of_ble_eq_true rfl⟩ ⟨Nat.le_of_ble_eq_true rfl, Nat.le_of_ble_eq_true rfl⟩ ?_
  refine aw_ifb_eq 124 dX9_game_119 (by decide) (fun c2 => ?_) (fun c2 => ?_)
  · rw [if_pos c2] at hf
    refine aw_aload_n 0 dX9_game_124 rfl ?_
    refine mo_getR 5 3 rfl (by decide) (wl4 (i := 103) rfl rfl) dX9_game_125 ?_
    refine aw_aload_n 0 dX9_game_128 rfl ?_
    refine mo_getI 4 rfl (by decide) (wl4 (i := 102) rfl rfl) dX9_game_129 ?_
    refine aw_iload_n 1 dX9_game_132 rfl ?_
    obtain ⟨hi3, hf⟩ := xifn hf
    refine mo_iast 3 16 rfl (xin_v hi3) dX9_game_133 ?_
    refine aw_aload_n 0 dX9_game_134 rfl ?_
    refine mo_getR 6 4 rfl (by decide) (wl4 (i := 104) rfl rfl) dX9_game_135 ?_
    refine aw_aload_n 0 dX9_game_138 rfl ?_
    refine mo_getI 4 rfl (by decide) (wl4 (i := 102) rfl rfl) dX9_game_139 ?_
    refine aw_iload_n 2 dX9_game_142 rfl ?_
    obtain ⟨hi4, hf⟩ := xifn hf
    obtain ⟨W5, hW5, hf⟩ := xlet hf
    refine mo_iast 4 16 rfl (xin_v hi4) dX9_game_143 ?_
    rw [hW5]
    refine aw_aload_n 0 dX9_game_144 rfl ?_
    refine mo_getR 7 5 rfl (by decide) (wl4 (i := 105) rfl rfl) dX9_game_145 ?_
    refine aw_aload_n 0 dX9_game_148 rfl ?_
    refine mo_getI 4 rfl (by decide) (wl4 (i := 102) rfl rfl) dX9_game_149 ?_
    refine aw_aload_n 0 dX9_game_152 rfl ?_
    refine aw_iload_n 1 dX9_game_153 rfl ?_
    refine aw_iload_n 2 dX9_game_154 rfl ?_
    obtain ⟨q6, hq6, hf⟩ := xbind hf
    refine aw_callV 7 (some mo) [.int a1, .int a2] 2 rfl mo_ob rfl rfl (ctX9_blackOf hl _ _ _ hq6) ⟨wl5 (i := 36) rfl rfl, ciX9_blackOf⟩ (wl5 (i := 38) rfl rfl) (wl0 (i := 22) rfl rfl) dX9_game_155 rfl rfl (Nat.le_of_ble_eq_true rfl) ⟨Nat.le_of_ble_eq_true rfl, Nat.le_of_ble_eq_true rfl⟩ ⟨Nat.le_of_ble_eq_true rfl, Nat.le_of_ble_eq_true rfl⟩ ?_
    obtain ⟨hi7, hf⟩ := xifn hf
    refine mo_iast 5 16 rfl (xin_v hi7) dX9_game_158 ?_
    refine aw_aload_n 0 dX9_game_159 rfl ?_
    refine mo_getR 8 6 rfl (by decide) (wl4 (i := 106) rfl rfl) dX9_game_160 ?_
    refine aw_aload_n 0 dX9_game_163 rfl ?_
    refine mo_getI 4 rfl (by decide) (wl4 (i := 102) rfl rfl) dX9_game_164 ?_
    refine aw_iload_n 1 dX9_game_167 rfl ?_
    refine aw_iload_n 2 dX9_game_168 rfl ?_
    refine aw_iadd dX9_game_169 ?_
    refine aw_aload_n 0 dX9_game_170 rfl ?_
    refine mo_getR 7 5 rfl (by decide) (wl4 (i := 105) rfl rfl) dX9_game_171 ?_
    refine aw_aload_n 0 dX9_game_174 rfl ?_
    refine mo_getI 4 rfl (by decide) (wl4 (i := 102) rfl rfl) dX9_game_175 ?_
    obtain ⟨hi8, hf⟩ := xifn hf
    refine mo_iald 5 16 rfl (xin_v hi8) dX9_game_178 ?_
    refine aw_isub dX9_game_179 ?_
    obtain ⟨W9, hW9, hf⟩ := xlet hf
    refine mo_iast 6 16 rfl (xin_v hi8) dX9_game_180 ?_
    rw [hW9]
    refine aw_aload_n 0 dX9_game_181 rfl ?_
    refine mo_getR 9 7 rfl (by decide) (wl4 (i := 107) rfl rfl) dX9_game_182 ?_
    refine aw_aload_n 0 dX9_game_185 rfl ?_
    refine mo_getI 4 rfl (by decide) (wl4 (i := 102) rfl rfl) dX9_game_186 ?_
    refine aw_aload_n 0 dX9_game_189 rfl ?_
    refine aw_iload_n 1 dX9_game_190 rfl ?_
    refine aw_iload_n 2 dX9_game_191 rfl ?_
    obtain ⟨q10, hq10, hf⟩ := xbind hf
    refine aw_callV 7 (some mo) [.int a1, .int a2] 2 rfl mo_ob rfl rfl (ctX9_handicapOf hl _ _ _ hq10) ⟨wl5 (i := 40) rfl rfl, ciX9_handicapOf⟩ (wl5 (i := 42) rfl rfl) (wl0 (i := 23) rfl rfl) dX9_game_192 rfl rfl (Nat.le_of_ble_eq_true rfl) ⟨Nat.le_of_ble_eq_true rfl, Nat.le_of_ble_eq_true rfl⟩ ⟨Nat.le_of_ble_eq_true rfl, Nat.le_of_ble_eq_true rfl⟩ ?_
    obtain ⟨hi11, hf⟩ := xifn hf
    refine mo_iast 7 16 rfl (xin_v hi11) dX9_game_195 ?_
    refine aw_aload_n 0 dX9_game_196 rfl ?_
    refine mo_getR 12 10 rfl (by decide) (wl4 (i := 110) rfl rfl) dX9_game_197 ?_
    refine aw_aload_n 0 dX9_game_200 rfl ?_
    refine mo_getI 4 rfl (by decide) (wl4 (i := 102) rfl rfl) dX9_game_201 ?_
    refine aw_aload_n 0 dX9_game_204 rfl ?_
    refine mo_getI 19 rfl (by decide) (wl4 (i := 117) rfl rfl) dX9_game_205 ?_
    obtain ⟨hi12, hf⟩ := xifn hf
    obtain ⟨W13, hW13, hf⟩ := xlet hf
    refine mo_iast 10 16 rfl (xin_v hi12) dX9_game_208 ?_
    rw [hW13]
    refine aw_aload_n 0 dX9_game_209 rfl ?_
    refine mo_getR 13 11 rfl (by decide) (wl4 (i := 111) rfl rfl) dX9_game_210 ?_
    refine aw_aload_n 0 dX9_game_213 rfl ?_
    refine mo_getI 4 rfl (by decide) (wl4 (i := 102) rfl rfl) dX9_game_214 ?_
    refine aw_aload_n 0 dX9_game_217 rfl ?_
    refine aw_aload_n 0 dX9_game_218 rfl ?_
    refine mo_getR 9 7 rfl (by decide) (wl4 (i := 107) rfl rfl) dX9_game_219 ?_
    refine aw_aload_n 0 dX9_game_222 rfl ?_
    refine mo_getI 4 rfl (by decide) (wl4 (i := 102) rfl rfl) dX9_game_223 ?_
    obtain ⟨hi14, hf⟩ := xifn hf
    refine mo_iald 7 16 rfl (xin_v hi14) dX9_game_226 ?_
    obtain ⟨q15, hq15, hf⟩ := xbind hf
    refine aw_callS [.int (m_I W13 7 (m_i W13 4).toNatClampNeg)] 1 (ctX9_stones hl _ hq15) ⟨wl5 (i := 48) rfl rfl, ciX9_stones⟩ (wl5 (i := 49) rfl rfl) dX9_game_227 rfl rfl (Nat.le_of_ble_eq_true rfl) ⟨Nat.le_of_ble_eq_true rfl, Nat.le_of_ble_eq_true rfl⟩ ⟨Nat.le_of_ble_eq_true rfl, Nat.le_of_ble_eq_true rfl⟩ ?_
    refine aw_lconst (0 : Int64) dX9_game_230 (by decide) ?_
    refine aw_iconst (-1 : Int32) dX9_game_231 (by decide) ?_
    obtain ⟨q16, hq16, hf⟩ := xbind hf
    refine aw_callV 7 (some mo) [.long q15, .long (0 : Int64), .int (-1 : Int32)] 3 rfl mo_ob rfl rfl (ctX9_keeps hl _ _ _ _ hq16) ⟨wl5 (i := 54) rfl rfl, ciX9_keeps⟩ (wl5 (i := 56) rfl rfl) (wl0 (i := 25) rfl rfl) dX9_game_232 rfl rfl (Nat.le_of_ble_eq_true rfl) ⟨Nat.le_of_ble_eq_true rfl, Nat.le_of_ble_eq_true rfl⟩ ⟨Nat.le_of_ble_eq_true rfl, Nat.le_of_ble_eq_true rfl⟩ ?_
    refine mo_iast 11 16 rfl (xin_v hi14) dX9_game_235 ?_
    refine aw_aload_n 0 dX9_game_236 rfl ?_
    refine mo_getR 18 16 rfl (by decide) (wl4 (i := 116) rfl rfl) dX9_game_237 ?_
    refine aw_aload_n 0 dX9_game_240 rfl ?_
    refine mo_getI 4 rfl (by decide) (wl4 (i := 102) rfl rfl) dX9_game_241 ?_
    refine aw_iload 5 dX9_game_244 rfl ?_
    obtain ⟨hi17, hf⟩ := xifn hf
    obtain ⟨W18, hW18, hf⟩ := xlet hf
    refine mo_iast 16 16 rfl (xin_v hi17) dX9_game_246 ?_
    rw [hW18]
    refine aw_iconst (0 : Int32) dX9_game_247 (by decide) ?_
    refine aw_istore [(8, .int (0 : Int32)), (0, .ref mo), (1, .int a1), (2, .int a2), (3, .int a3), (4, .int a4), (5, .int a5)] dX9_game_248 (by decide) rfl ?_
    refine aw_lv [1, 4, 5, 0] rfl ?_
    exact wkX9_game_250 hl _ _ _ _ _ hf
  · rw [if_neg c2] at hf
    refine aw_iconst (0 : Int32) dX9_game_122 (by decide) ?_
    cases hf
    exact aw_iret dX9_game_123 rfl rfl rfl ⟨Nat.le_of_ble_eq_true rfl, Nat.le_of_ble_eq_true rfl⟩
def fX9_game_65 (S : MS) (a1 : Int32) (a2 : Int32) (a3 : Int32) (a4 : Int32) (a5 : Int32) (a6 : Int32) (s0 : Int32) : Option (Int32 × MS) :=
  (if a6 = 0 then fX9_game_116 S a1 a2 a3 a4 a5 (1 : Int32) else (if s0 = 0 then fX9_game_116 S a1 a2 a3 a4 a5 (2 : Int32) else (fX9_plays S a1).bind fun q3 => (if q3 = false then (fX9_plays S a2).bind fun q5 => (if q5 = false then (if (m_i S 4) = (16 : Int32) then fX9_game_116 S a1 a2 a3 a4 a5 (3 : Int32) else fX9_game_116 S a1 a2 a3 a4 a5 (0 : Int32)) else fX9_game_116 S a1 a2 a3 a4 a5 (3 : Int32)) else fX9_game_116 S a1 a2 a3 a4 a5 (3 : Int32))))
set_option maxHeartbeats 4000000 in
set_option maxRecDepth 100000 in
theorem wkX9_game_65 {l : Launch} {g : xG} {x0 : xV} {mo sz : Nat} (hl : l.stackTraces = false) {r : Int32 × MS} (S : MS) (a1 : Int32) (a2 : Int32) (a3 : Int32) (a4 : Int32) (a5 : Int32) (a6 : Int32) (s0 : Int32) (hf : fX9_game_65 S a1 a2 a3 a4 a5 a6 s0 = some r) : AW MX9_game rmX9_game l g x0 (.inl (some (.int r.1))) (moE g mo sz r.2) 0 0 (moE g mo sz S) 65 [(0, .ref mo), (1, .int a1), (2, .int a2), (3, .int a3), (4, .int a4), (5, .int a5), (6, .int a6)] [.int s0] := by
  rw [fX9_game_65] at hf
  refine aw_istore [(7, .int s0), (0, .ref mo), (1, .int a1), (2, .int a2), (3, .int a3), (4, .int a4), (5, .int a5), (6, .int a6)] dX9_game_65 (by decide) rfl ?_
  refine aw_aload_n 1 dX9_game_67 rfl ?_
  refine aw_iload 7 dX9_game_68 rfl ?_
  refine aw_if_ne 77 dX9_game_70 (by decide) (fun c1 => ?_) (fun c1 => ?_)
  · rw [if_neg c1] at hf
    refine aw_iload 0 dX9_game_77 rfl ?_
    refine aw_if_ne 86 dX9_game_79 (by decide) (fun c2 => ?_) (fun c2 => ?_)
    · rw [if_neg c2] at hf
      refine aw_aload_n 1 dX9_game_86 rfl ?_
      refine aw_iload_n 2 dX9_game_87 rfl ?_
      obtain ⟨q3, hq3, hf⟩ := xbind hf
      refine aw_callV 7 (some mo) [.int a1] 1 rfl mo_ob rfl rfl (ctX9_plays hl _ _ hq3) ⟨wl5 (i := 32) rfl rfl, ciX9_plays⟩ (wl5 (i := 34) rfl rfl) (wl0 (i := 21) rfl rfl) dX9_game_88 rfl rfl (Nat.le_of_ble_eq_true rfl) ⟨Nat.le_of_ble_eq_true rfl, Nat.le_of_ble_eq_true rfl⟩ ⟨Nat.le_of_ble_eq_true rfl, Nat.le_of_ble_eq_true rfl⟩ ?_
      refine aw_ifb_ne 111 dX9_game_91 (by decide) (fun c4 => ?_) (fun c4 => ?_)
      · rw [if_neg c4] at hf
        refine aw_iconst (3 : Int32) dX9_game_111 (by decide) ?_
        refine aw_goto 116 dX9_game_112 (by decide) ?_
        refine aw_lv [1, 2, 3, 4, 5, 6] rfl ?_
        exact wkX9_game_116 hl _ _ _ _ _ _ _ hf
      · rw [if_pos c4] at hf
        refine aw_aload_n 1 dX9_game_94 rfl ?_
        refine aw_iload_n 3 dX9_game_95 rfl ?_
        obtain ⟨q5, hq5, hf⟩ := xbind hf
        refine aw_callV 7 (some mo) [.int a2] 1 rfl mo_ob rfl rfl (ctX9_plays hl _ _ hq5) ⟨wl5 (i := 32) rfl rfl, ciX9_plays⟩ (wl5 (i := 34) rfl rfl) (wl0 (i := 21) rfl rfl) dX9_game_96 rfl rfl (Nat.le_of_ble_eq_true rfl) ⟨Nat.le_of_ble_eq_true rfl, Nat.le_of_ble_eq_true rfl⟩ ⟨Nat.le_of_ble_eq_true rfl, Nat.le_of_ble_eq_true rfl⟩ ?_
        refine aw_ifb_ne 111 dX9_game_99 (by decide) (fun c6 => ?_) (fun c6 => ?_)
        · rw [if_neg c6] at hf
          refine aw_iconst (3 : Int32) dX9_game_111 (by decide) ?_
          refine aw_goto 116 dX9_game_112 (by decide) ?_
          refine aw_lv [1, 2, 3, 4, 5, 6] rfl ?_
          exact wkX9_game_116 hl _ _ _ _ _ _ _ hf
        · rw [if_pos c6] at hf
          refine aw_aload_n 1 dX9_game_102 rfl ?_
          refine mo_getI 4 rfl (by decide) (wl4 (i := 102) rfl rfl) dX9_game_103 ?_
          refine aw_bipush (16 : Int32) dX9_game_106 (by decide) ?_
          refine aw_icmp_ne 115 dX9_game_108 (by decide) (fun c7 => ?_) (fun c7 => ?_)
          · rw [if_neg c7] at hf
            refine aw_iconst (0 : Int32) dX9_game_115 (by decide) ?_
            refine aw_lv [1, 2, 3, 4, 5, 6] rfl ?_
            exact wkX9_game_116 hl _ _ _ _ _ _ _ hf
          · rw [if_pos c7] at hf
            refine aw_iconst (3 : Int32) dX9_game_111 (by decide) ?_
            refine aw_goto 116 dX9_game_112 (by decide) ?_
            refine aw_lv [1, 2, 3, 4, 5, 6] rfl ?_
            exact wkX9_game_116 hl _ _ _ _ _ _ _ hf
    · rw [if_pos c2] at hf
      refine aw_iconst (2 : Int32) dX9_game_82 (by decide) ?_
      refine aw_goto 116 dX9_game_83 (by decide) ?_
      refine aw_lv [1, 2, 3, 4, 5, 6] rfl ?_
      exact wkX9_game_116 hl _ _ _ _ _ _ _ hf
  · rw [if_pos c1] at hf
    refine aw_iconst (1 : Int32) dX9_game_73 (by decide) ?_
    refine aw_goto 116 dX9_game_74 (by decide) ?_
    refine aw_lv [1, 2, 3, 4, 5, 6] rfl ?_
    exact wkX9_game_116 hl _ _ _ _ _ _ _ hf
def fX9_game_21 (S : MS) (a1 : Int32) (a2 : Int32) (a3 : Int32) (a4 : Int32) (a5 : Int32) (s0 : Int32) : Option (Int32 × MS) :=
  (if a1 = a2 then fX9_game_65 S a1 a2 a3 a4 a5 s0 (0 : Int32) else (fX9_isIn a3 (0 : Int32) (3600 : Int32)).bind fun q2 => (if q2 = false then fX9_game_65 S a1 a2 a3 a4 a5 s0 (0 : Int32) else (fX9_isIn a4 (0 : Int32) (5 : Int32)).bind fun q4 => (if q4 = false then fX9_game_65 S a1 a2 a3 a4 a5 s0 (0 : Int32) else (fX9_isIn a5 (1 : Int32) (60 : Int32)).bind fun q6 => (if q6 = false then fX9_game_65 S a1 a2 a3 a4 a5 s0 (0 : Int32) else fX9_game_65 S a1 a2 a3 a4 a5 s0 (1 : Int32)))))
set_option maxHeartbeats 4000000 in
set_option maxRecDepth 100000 in
theorem wkX9_game_21 {l : Launch} {g : xG} {x0 : xV} {mo sz : Nat} (hl : l.stackTraces = false) {r : Int32 × MS} (S : MS) (a1 : Int32) (a2 : Int32) (a3 : Int32) (a4 : Int32) (a5 : Int32) (s0 : Int32) (hf : fX9_game_21 S a1 a2 a3 a4 a5 s0 = some r) : AW MX9_game rmX9_game l g x0 (.inl (some (.int r.1))) (moE g mo sz r.2) 0 0 (moE g mo sz S) 21 [(0, .ref mo), (1, .int a1), (2, .int a2), (3, .int a3), (4, .int a4), (5, .int a5)] [.int s0] := by
  rw [fX9_game_21] at hf
  refine aw_istore [(6, .int s0), (0, .ref mo), (1, .int a1), (2, .int a2), (3, .int a3), (4, .int a4), (5, .int a5)] dX9_game_21 (by decide) rfl ?_
  refine aw_iload_n 2 dX9_game_23 rfl ?_
  refine aw_iload_n 3 dX9_game_24 rfl ?_
  refine aw_icmp_eq 64 dX9_game_25 (by decide) (fun c1 => ?_) (fun c1 => ?_)
  · rw [if_pos c1] at hf
    refine aw_iconst (0 : Int32) dX9_game_64 (by decide) ?_
    refine aw_lv [1, 2, 3, 4, 5, 6, 0] rfl ?_
    exact wkX9_game_65 hl _ _ _ _ _ _ _ _ hf
  · rw [if_neg c1] at hf
    refine aw_iload_n 4 dX9_game_28 rfl ?_
    refine aw_iconst (0 : Int32) dX9_game_29 (by decide) ?_
    refine aw_sipush (3600 : Int32) dX9_game_30 (by decide) ?_
    obtain ⟨q2, hq2, hf⟩ := xbind hf
    refine aw_callS [.int a3, .int (0 : Int32), .int (3600 : Int32)] 3 (ctX9_isIn hl _ _ _ hq2) ⟨wl5 (i := 13) rfl rfl, ciX9_isIn⟩ (wl5 (i := 14) rfl rfl) dX9_game_33 rfl rfl (Nat.le_of_ble_eq_true rfl) ⟨Nat.le_of_ble_eq_true rfl, Nat.le_of_ble_eq_true rfl⟩ ⟨Nat.le_of_ble_eq_true rfl, Nat.le_of_ble_eq_true rfl⟩ ?_
    refine aw_ifb_eq 64 dX9_game_36 (by decide) (fun c3 => ?_) (fun c3 => ?_)
    · rw [if_pos c3] at hf
      refine aw_iconst (0 : Int32) dX9_game_64 (by decide) ?_
      refine aw_lv [1, 2, 3, 4, 5, 6, 0] rfl ?_
      exact wkX9_game_65 hl _ _ _ _ _ _ _ _ hf
    · rw [if_neg c3] at hf
      refine aw_iload 5 dX9_game_39 rfl ?_
      refine aw_iconst (0 : Int32) dX9_game_41 (by decide) ?_
      refine aw_iconst (5 : Int32) dX9_game_42 (by decide) ?_
      obtain ⟨q4, hq4, hf⟩ := xbind hf
      refine aw_callS [.int a4, .int (0 : Int32), .int (5 : Int32)] 3 (ctX9_isIn hl _ _ _ hq4) ⟨wl5 (i := 13) rfl rfl, ciX9_isIn⟩ (wl5 (i := 14) rfl rfl) dX9_game_43 rfl rfl (Nat.le_of_ble_eq_true rfl) ⟨Nat.le_of_ble_eq_true rfl, Nat.le_of_ble_eq_true rfl⟩ ⟨Nat.le_of_ble_eq_true rfl, Nat.le_of_ble_eq_true rfl⟩ ?_
      refine aw_ifb_eq 64 dX9_game_46 (by decide) (fun c5 => ?_) (fun c5 => ?_)
      · rw [if_pos c5] at hf
        refine aw_iconst (0 : Int32) dX9_game_64 (by decide) ?_
        refine aw_lv [1, 2, 3, 4, 5, 6, 0] rfl ?_
        exact wkX9_game_65 hl _ _ _ _ _ _ _ _ hf
      · rw [if_neg c5] at hf
        refine aw_iload 6 dX9_game_49 rfl ?_
        refine aw_iconst (1 : Int32) dX9_game_51 (by decide) ?_
        refine aw_bipush (60 : Int32) dX9_game_52 (by decide) ?_
        obtain ⟨q6, hq6, hf⟩ := xbind hf
        refine aw_callS [.int a5, .int (1 : Int32), .int (60 : Int32)] 3 (ctX9_isIn hl _ _ _ hq6) ⟨wl5 (i := 13) rfl rfl, ciX9_isIn⟩ (wl5 (i := 14) rfl rfl) dX9_game_54 rfl rfl (Nat.le_of_ble_eq_true rfl) ⟨Nat.le_of_ble_eq_true rfl, Nat.le_of_ble_eq_true rfl⟩ ⟨Nat.le_of_ble_eq_true rfl, Nat.le_of_ble_eq_true rfl⟩ ?_
        refine aw_ifb_eq 64 dX9_game_57 (by decide) (fun c7 => ?_) (fun c7 => ?_)
        · rw [if_pos c7] at hf
          refine aw_iconst (0 : Int32) dX9_game_64 (by decide) ?_
          refine aw_lv [1, 2, 3, 4, 5, 6, 0] rfl ?_
          exact wkX9_game_65 hl _ _ _ _ _ _ _ _ hf
        · rw [if_neg c7] at hf
          refine aw_iconst (1 : Int32) dX9_game_60 (by decide) ?_
          refine aw_goto 65 dX9_game_61 (by decide) ?_
          refine aw_lv [1, 2, 3, 4, 5, 6, 0] rfl ?_
          exact wkX9_game_65 hl _ _ _ _ _ _ _ _ hf
def fX9_game (S : MS) (a1 : Int32) (a2 : Int32) (a3 : Int32) (a4 : Int32) (a5 : Int32) : Option (Int32 × MS) :=
  (fX9_isPlayer S a1).bind fun q1 => (if q1 = false then fX9_game_21 S a1 a2 a3 a4 a5 (0 : Int32) else (fX9_isPlayer S a2).bind fun q3 => (if q3 = false then fX9_game_21 S a1 a2 a3 a4 a5 (0 : Int32) else fX9_game_21 S a1 a2 a3 a4 a5 (1 : Int32)))
set_option maxHeartbeats 4000000 in
set_option maxRecDepth 100000 in
theorem ctX9_game {l : Launch} {g : xG} {mo sz : Nat} (hl : l.stackTraces = false) {r : Int32 × MS} (S : MS) (a1 : Int32) (a2 : Int32) (a3 : Int32) (a4 : Int32) (a5 : Int32) (hf : fX9_game S a1 a2 a3 a4 a5 = some r) : CT yX9_game MX9_game rmX9_game l g [.ref mo, .int a1, .int a2, .int a3, .int a4, .int a5] (moE g mo sz S) (.inl (some (.int r.1))) (moE g mo sz r.2) := by
  rw [fX9_game] at hf
  refine CT.of (lv0 := [(0, .ref mo), (1, .int a1), (2, .int a2), (3, .int a3), (4, .int a4), (5, .int a5)]) (by decide +kernel) rfl rfl (Nat.le_of_ble_eq_true rfl) rfl hl ?_
  refine aw_aload_n 0 dX9_game_0 rfl ?_
  refine aw_iload_n 1 dX9_game_1 rfl ?_
  obtain ⟨q1, hq1, hf⟩ := xbind hf
  refine aw_callV 7 (some mo) [.int a1] 1 rfl mo_ob rfl rfl (ctX9_isPlayer hl _ _ hq1) ⟨wl5 (i := 24) rfl rfl, ciX9_isPlayer⟩ (wl5 (i := 26) rfl rfl) (wl0 (i := 20) rfl rfl) dX9_game_2 rfl rfl (Nat.le_of_ble_eq_true rfl) ⟨Nat.le_of_ble_eq_true rfl, Nat.le_of_ble_eq_true rfl⟩ ⟨Nat.le_of_ble_eq_true rfl, Nat.le_of_ble_eq_true rfl⟩ ?_
  refine aw_ifb_eq 20 dX9_game_5 (by decide) (fun c2 => ?_) (fun c2 => ?_)
  · rw [if_pos c2] at hf
    refine aw_iconst (0 : Int32) dX9_game_20 (by decide) ?_
    refine aw_lv [0, 1, 2, 3, 4, 5] rfl ?_
    exact wkX9_game_21 hl _ _ _ _ _ _ _ hf
  · rw [if_neg c2] at hf
    refine aw_aload_n 0 dX9_game_8 rfl ?_
    refine aw_iload_n 2 dX9_game_9 rfl ?_
    obtain ⟨q3, hq3, hf⟩ := xbind hf
    refine aw_callV 7 (some mo) [.int a2] 1 rfl mo_ob rfl rfl (ctX9_isPlayer hl _ _ hq3) ⟨wl5 (i := 24) rfl rfl, ciX9_isPlayer⟩ (wl5 (i := 26) rfl rfl) (wl0 (i := 20) rfl rfl) dX9_game_10 rfl rfl (Nat.le_of_ble_eq_true rfl) ⟨Nat.le_of_ble_eq_true rfl, Nat.le_of_ble_eq_true rfl⟩ ⟨Nat.le_of_ble_eq_true rfl, Nat.le_of_ble_eq_true rfl⟩ ?_
    refine aw_ifb_eq 20 dX9_game_13 (by decide) (fun c4 => ?_) (fun c4 => ?_)
    · rw [if_pos c4] at hf
      refine aw_iconst (0 : Int32) dX9_game_20 (by decide) ?_
      refine aw_lv [0, 1, 2, 3, 4, 5] rfl ?_
      exact wkX9_game_21 hl _ _ _ _ _ _ _ hf
    · rw [if_neg c4] at hf
      refine aw_iconst (1 : Int32) dX9_game_16 (by decide) ?_
      refine aw_goto 21 dX9_game_17 (by decide) ?_
      refine aw_lv [0, 1, 2, 3, 4, 5] rfl ?_
      exact wkX9_game_21 hl _ _ _ _ _ _ _ hf
abbrev MX9_handicap : xM := (RX9, cX9_handicap, 2, (some .int), "handicap")
abbrev rmX9_handicap : Room := { frames := 2, cells := 0, slots := 0, locals := 43 }
theorem ciX9_handicap : Cond.code yX9_handicap cX9_handicap 2 (some .int) ∈ wt ∧ Cond.initialized yX9_handicap.cls ∈ wt ∧ (yX9_handicap.cls ≠ "java/lang/invoke/MethodHandle" ∧ yX9_handicap.cls ≠ "java/lang/invoke/VarHandle" ∧ (parseMethodDescriptor yX9_handicap.desc).map (fun d => d.parameters.length) = some 1) := ⟨wl5 (i := 147) rfl rfl, wl1 (i := 4) rfl rfl, by decide +kernel, by decide +kernel, by decide +kernel⟩
def fX9_handicap_14 (S : MS) (a1 : Int32) (s1 : Int32) : Option (Int32 × MS) :=
  (fX9_fails S s1).bind fun q1 => (if q1.1 = false then (if xin a1 16 = true then some (((((100 : Int32) * (m_I q1.2 5 a1.toNatClampNeg)) + ((10 : Int32) * (m_I q1.2 6 a1.toNatClampNeg))) + (m_I q1.2 7 a1.toNatClampNeg)), q1.2) else none) else some ((0 : Int32), q1.2))
set_option maxHeartbeats 4000000 in
set_option maxRecDepth 100000 in
theorem wkX9_handicap_14 {l : Launch} {g : xG} {x0 : xV} {mo sz : Nat} (hl : l.stackTraces = false) {r : Int32 × MS} (S : MS) (a1 : Int32) (s1 : Int32) (hf : fX9_handicap_14 S a1 s1 = some r) : AW MX9_handicap rmX9_handicap l g x0 (.inl (some (.int r.1))) (moE g mo sz r.2) 0 0 (moE g mo sz S) 14 [(0, .ref mo), (1, .int a1)] [.int s1, .ref mo] := by
  rw [fX9_handicap_14] at hf
  obtain ⟨q1, hq1, hf⟩ := xbind hf
  refine aw_callV 7 (some mo) [.int s1] 1 rfl mo_ob rfl rfl (ctX9_fails hl _ _ hq1) ⟨wl5 (i := 16) rfl rfl, ciX9_fails⟩ (wl5 (i := 18) rfl rfl) (wl0 (i := 19) rfl rfl) dX9_handicap_14 rfl rfl (Nat.le_of_ble_eq_true rfl) ⟨Nat.le_of_ble_eq_true rfl, Nat.le_of_ble_eq_true rfl⟩ ⟨Nat.le_of_ble_eq_true rfl, Nat.le_of_ble_eq_true rfl⟩ ?_
  refine aw_ifb_eq 24 dX9_handicap_17 (by decide) (fun c2 => ?_) (fun c2 => ?_)
  · rw [if_pos c2] at hf
    refine aw_bipush (100 : Int32) dX9_handicap_24 (by decide) ?_
    refine aw_aload_n 0 dX9_handicap_26 rfl ?_
    refine mo_getR 7 5 rfl (by decide) (wl4 (i := 105) rfl rfl) dX9_handicap_27 ?_
    refine aw_iload_n 1 dX9_handicap_30 rfl ?_
    obtain ⟨hi3, hf⟩ := xifn hf
    refine mo_iald 5 16 rfl (xin_v hi3) dX9_handicap_31 ?_
    refine aw_imul dX9_handicap_32 ?_
    refine aw_bipush (10 : Int32) dX9_handicap_33 (by decide) ?_
    refine aw_aload_n 0 dX9_handicap_35 rfl ?_
    refine mo_getR 8 6 rfl (by decide) (wl4 (i := 106) rfl rfl) dX9_handicap_36 ?_
    refine aw_iload_n 1 dX9_handicap_39 rfl ?_
    refine mo_iald 6 16 rfl (xin_v hi3) dX9_handicap_40 ?_
    refine aw_imul dX9_handicap_41 ?_
    refine aw_iadd dX9_handicap_42 ?_
    refine aw_aload_n 0 dX9_handicap_43 rfl ?_
    refine mo_getR 9 7 rfl (by decide) (wl4 (i := 107) rfl rfl) dX9_handicap_44 ?_
    refine aw_iload_n 1 dX9_handicap_47 rfl ?_
    refine mo_iald 7 16 rfl (xin_v hi3) dX9_handicap_48 ?_
    refine aw_iadd dX9_handicap_49 ?_
    cases hf
    exact aw_iret dX9_handicap_50 rfl rfl rfl ⟨Nat.le_of_ble_eq_true rfl, Nat.le_of_ble_eq_true rfl⟩
  · rw [if_neg c2] at hf
    refine aw_iconst (0 : Int32) dX9_handicap_20 (by decide) ?_
    refine aw_goto 50 dX9_handicap_21 (by decide) ?_
    cases hf
    exact aw_iret dX9_handicap_50 rfl rfl rfl ⟨Nat.le_of_ble_eq_true rfl, Nat.le_of_ble_eq_true rfl⟩
def fX9_handicap (S : MS) (a1 : Int32) : Option (Int32 × MS) :=
  (fX9_isGame S a1).bind fun q1 => (if q1 = false then fX9_handicap_14 S a1 (1 : Int32) else fX9_handicap_14 S a1 (0 : Int32))
set_option maxHeartbeats 4000000 in
set_option maxRecDepth 100000 in
theorem ctX9_handicap {l : Launch} {g : xG} {mo sz : Nat} (hl : l.stackTraces = false) {r : Int32 × MS} (S : MS) (a1 : Int32) (hf : fX9_handicap S a1 = some r) : CT yX9_handicap MX9_handicap rmX9_handicap l g [.ref mo, .int a1] (moE g mo sz S) (.inl (some (.int r.1))) (moE g mo sz r.2) := by
  rw [fX9_handicap] at hf
  refine CT.of (lv0 := [(0, .ref mo), (1, .int a1)]) (by decide +kernel) rfl rfl (Nat.le_of_ble_eq_true rfl) rfl hl ?_
  refine aw_aload_n 0 dX9_handicap_0 rfl ?_
  refine aw_aload_n 0 dX9_handicap_1 rfl ?_
  refine aw_iload_n 1 dX9_handicap_2 rfl ?_
  obtain ⟨q1, hq1, hf⟩ := xbind hf
  refine aw_callV 7 (some mo) [.int a1] 1 rfl mo_ob rfl rfl (ctX9_isGame hl _ _ hq1) ⟨wl5 (i := 62) rfl rfl, ciX9_isGame⟩ (wl5 (i := 64) rfl rfl) (wl0 (i := 26) rfl rfl) dX9_handicap_3 rfl rfl (Nat.le_of_ble_eq_true rfl) ⟨Nat.le_of_ble_eq_true rfl, Nat.le_of_ble_eq_true rfl⟩ ⟨Nat.le_of_ble_eq_true rfl, Nat.le_of_ble_eq_true rfl⟩ ?_
  refine aw_ifb_eq 13 dX9_handicap_6 (by decide) (fun c2 => ?_) (fun c2 => ?_)
  · rw [if_pos c2] at hf
    refine aw_iconst (1 : Int32) dX9_handicap_13 (by decide) ?_
    refine aw_lv [0, 1] rfl ?_
    exact wkX9_handicap_14 hl _ _ _ hf
  · rw [if_neg c2] at hf
    refine aw_iconst (0 : Int32) dX9_handicap_9 (by decide) ?_
    refine aw_goto 14 dX9_handicap_10 (by decide) ?_
    refine aw_lv [0, 1] rfl ?_
    exact wkX9_handicap_14 hl _ _ _ hf
abbrev MX9_isOff : xM := (RX9, cX9_isOff, 2, (some .boolean), "isOff")
abbrev rmX9_isOff : Room := { frames := 4, cells := 0, slots := 0, locals := 89 }
theorem ciX9_isOff : Cond.code yX9_isOff cX9_isOff 2 (some .boolean) ∈ wt ∧ Cond.initialized yX9_isOff.cls ∈ wt ∧ (yX9_isOff.cls ≠ "java/lang/invoke/MethodHandle" ∧ yX9_isOff.cls ≠ "java/lang/invoke/VarHandle" ∧ (parseMethodDescriptor yX9_isOff.desc).map (fun d => d.parameters.length) = some 1) := ⟨wl5 (i := 190) rfl rfl, wl1 (i := 4) rfl rfl, by decide +kernel, by decide +kernel, by decide +kernel⟩
def fX9_isOff (S : MS) (a1 : Int32) : Option (Bool × MS) :=
  (if xin a1 16 = true then (if (m_I S 9 a1.toNatClampNeg) = 0 then (fX9_dueOf S a1).bind fun q3 => (if q3.1 = ((((100 : Int32) * (m_I q3.2 5 a1.toNatClampNeg)) + ((10 : Int32) * (m_I q3.2 6 a1.toNatClampNeg))) + (m_I q3.2 7 a1.toNatClampNeg)) then some (false, q3.2) else some (true, q3.2)) else some (false, S)) else none)
set_option maxHeartbeats 4000000 in
set_option maxRecDepth 100000 in
theorem ctX9_isOff {l : Launch} {g : xG} {mo sz : Nat} (hl : l.stackTraces = false) {r : Bool × MS} (S : MS) (a1 : Int32) (hf : fX9_isOff S a1 = some r) : CT yX9_isOff MX9_isOff rmX9_isOff l g [.ref mo, .int a1] (moE g mo sz S) (.inl (some (.int (bi r.1)))) (moE g mo sz r.2) := by
  rw [fX9_isOff] at hf
  refine CT.of (lv0 := [(0, .ref mo), (1, .int a1)]) (by decide +kernel) rfl rfl (Nat.le_of_ble_eq_true rfl) rfl hl ?_
  refine aw_aload_n 0 dX9_isOff_0 rfl ?_
  refine mo_getR 11 9 rfl (by decide) (wl4 (i := 109) rfl rfl) dX9_isOff_1 ?_
  refine aw_iload_n 1 dX9_isOff_4 rfl ?_
  obtain ⟨hi1, hf⟩ := xifn hf
  refine mo_zald 9 16 rfl (xin_v hi1) dX9_isOff_5 ?_
  refine aw_if_ne 47 dX9_isOff_6 (by decide) (fun c2 => ?_) (fun c2 => ?_)
  · rw [if_neg c2] at hf
    refine aw_iconst (0 : Int32) dX9_isOff_47 (by decide) ?_
    cases hf
    exact aw_zret dX9_isOff_48 rfl rfl rfl rfl ⟨Nat.le_of_ble_eq_true rfl, Nat.le_of_ble_eq_true rfl⟩
  · rw [if_pos c2] at hf
    refine aw_aload_n 0 dX9_isOff_9 rfl ?_
    refine aw_iload_n 1 dX9_isOff_10 rfl ?_
    obtain ⟨q3, hq3, hf⟩ := xbind hf
    refine aw_callV 7 (some mo) [.int a1] 1 rfl mo_ob rfl rfl (ctX9_dueOf hl _ _ hq3) ⟨wl5 (i := 191) rfl rfl, ciX9_dueOf⟩ (wl5 (i := 193) rfl rfl) (wl0 (i := 42) rfl rfl) dX9_isOff_11 rfl rfl (Nat.le_of_ble_eq_true rfl) ⟨Nat.le_of_ble_eq_true rfl, Nat.le_of_ble_eq_true rfl⟩ ⟨Nat.le_of_ble_eq_true rfl, Nat.le_of_ble_eq_true rfl⟩ ?_
    refine aw_bipush (100 : Int32) dX9_isOff_14 (by decide) ?_
    refine aw_aload_n 0 dX9_isOff_16 rfl ?_
    refine mo_getR 7 5 rfl (by decide) (wl4 (i := 105) rfl rfl) dX9_isOff_17 ?_
    refine aw_iload_n 1 dX9_isOff_20 rfl ?_
    refine mo_iald 5 16 rfl (xin_v hi1) dX9_isOff_21 ?_
    refine aw_imul dX9_isOff_22 ?_
    refine aw_bipush (10 : Int32) dX9_isOff_23 (by decide) ?_
    refine aw_aload_n 0 dX9_isOff_25 rfl ?_
    refine mo_getR 8 6 rfl (by decide) (wl4 (i := 106) rfl rfl) dX9_isOff_26 ?_
    refine aw_iload_n 1 dX9_isOff_29 rfl ?_
    refine mo_iald 6 16 rfl (xin_v hi1) dX9_isOff_30 ?_
    refine aw_imul dX9_isOff_31 ?_
    refine aw_iadd dX9_isOff_32 ?_
    refine aw_aload_n 0 dX9_isOff_33 rfl ?_
    refine mo_getR 9 7 rfl (by decide) (wl4 (i := 107) rfl rfl) dX9_isOff_34 ?_
    refine aw_iload_n 1 dX9_isOff_37 rfl ?_
    refine mo_iald 7 16 rfl (xin_v hi1) dX9_isOff_38 ?_
    refine aw_iadd dX9_isOff_39 ?_
    refine aw_icmp_eq 47 dX9_isOff_40 (by decide) (fun c4 => ?_) (fun c4 => ?_)
    · rw [if_pos c4] at hf
      refine aw_iconst (0 : Int32) dX9_isOff_47 (by decide) ?_
      cases hf
      exact aw_zret dX9_isOff_48 rfl rfl rfl rfl ⟨Nat.le_of_ble_eq_true rfl, Nat.le_of_ble_eq_true rfl⟩
    · rw [if_neg c4] at hf
      refine aw_iconst (1 : Int32) dX9_isOff_43 (by decide) ?_
      refine aw_goto 48 dX9_isOff_44 (by decide) ?_
      cases hf
      exact aw_zret dX9_isOff_48 rfl rfl rfl rfl ⟨Nat.le_of_ble_eq_true rfl, Nat.le_of_ble_eq_true rfl⟩
abbrev MX9_isRoot : xM := (RX9, cX9_isRoot, 2, (some .boolean), "isRoot")
abbrev rmX9_isRoot : Room := { frames := 0, cells := 0, slots := 0, locals := 0 }
theorem ciX9_isRoot : Cond.code yX9_isRoot cX9_isRoot 2 (some .boolean) ∈ wt ∧ Cond.initialized yX9_isRoot.cls ∈ wt ∧ (yX9_isRoot.cls ≠ "java/lang/invoke/MethodHandle" ∧ yX9_isRoot.cls ≠ "java/lang/invoke/VarHandle" ∧ (parseMethodDescriptor yX9_isRoot.desc).map (fun d => d.parameters.length) = some 1) := ⟨wl6 (i := 41) rfl rfl, wl1 (i := 4) rfl rfl, by decide +kernel, by decide +kernel, by decide +kernel⟩
def fX9_isRoot (S : MS) (a1 : Int32) : Option (Bool) :=
  (if xin a1 60 = true then (if (m_I S 28 a1.toNatClampNeg) = (-1 : Int32) then some true else some false) else none)
set_option maxHeartbeats 4000000 in
set_option maxRecDepth 100000 in
theorem ctX9_isRoot {l : Launch} {g : xG} {mo sz : Nat} (hl : l.stackTraces = false) {r : Bool} (S : MS) (a1 : Int32) (hf : fX9_isRoot S a1 = some r) : CT yX9_isRoot MX9_isRoot rmX9_isRoot l g [.ref mo, .int a1] (moE g mo sz S) (.inl (some (.int (bi r)))) (moE g mo sz S) := by
  rw [fX9_isRoot] at hf
  refine CT.of (lv0 := [(0, .ref mo), (1, .int a1)]) (by decide +kernel) rfl rfl (Nat.le_of_ble_eq_true rfl) rfl hl ?_
  refine aw_aload_n 0 dX9_isRoot_0 rfl ?_
  refine mo_getR 37 28 rfl (by decide) (wl4 (i := 135) rfl rfl) dX9_isRoot_1 ?_
  refine aw_iload_n 1 dX9_isRoot_4 rfl ?_
  obtain ⟨hi1, hf⟩ := xifn hf
  refine mo_iald 28 60 rfl (xin_v hi1) dX9_isRoot_5 ?_
  refine aw_iconst (-1 : Int32) dX9_isRoot_6 (by decide) ?_
  refine aw_icmp_ne 14 dX9_isRoot_7 (by decide) (fun c2 => ?_) (fun c2 => ?_)
  · rw [if_neg c2] at hf
    refine aw_iconst (0 : Int32) dX9_isRoot_14 (by decide) ?_
    cases hf
    exact aw_zret dX9_isRoot_15 rfl rfl rfl rfl ⟨Nat.le_of_ble_eq_true rfl, Nat.le_of_ble_eq_true rfl⟩
  · rw [if_pos c2] at hf
    refine aw_iconst (1 : Int32) dX9_isRoot_10 (by decide) ?_
    refine aw_goto 15 dX9_isRoot_11 (by decide) ?_
    cases hf
    exact aw_zret dX9_isRoot_15 rfl rfl rfl rfl ⟨Nat.le_of_ble_eq_true rfl, Nat.le_of_ble_eq_true rfl⟩
abbrev MX9_off : xM := (RX9, cX9_off, 3, (some .int), "off")
abbrev rmX9_off : Room := { frames := 5, cells := 0, slots := 0, locals := 110 }
theorem ciX9_off : Cond.code yX9_off cX9_off 3 (some .int) ∈ wt ∧ Cond.initialized yX9_off.cls ∈ wt ∧ (yX9_off.cls ≠ "java/lang/invoke/MethodHandle" ∧ yX9_off.cls ≠ "java/lang/invoke/VarHandle" ∧ (parseMethodDescriptor yX9_off.desc).map (fun d => d.parameters.length) = some 0) := ⟨wl5 (i := 186) rfl rfl, wl1 (i := 4) rfl rfl, by decide +kernel, by decide +kernel, by decide +kernel⟩
def fX9_off_28 (k4 : MS → Int32 → Int32 → Option (Int32 × MS)) (S : MS) (a2 : Int32) (s0 : Int32) (s1 : Int32) : Option (Int32 × MS) :=
  k4 S (s0 ||| s1) (a2 + (1 : Int32))
set_option maxHeartbeats 4000000 in
set_option maxRecDepth 100000 in
theorem wkX9_off_28 {l : Launch} {g : xG} {x0 : xV} {mo sz : Nat} (hl : l.stackTraces = false) {r : Int32 × MS} (k4 : MS → Int32 → Int32 → Option (Int32 × MS)) (hk4 : ∀ (S : MS) (a1 : Int32) (a2 : Int32), k4 S a1 a2 = some r → AW MX9_off rmX9_off l g x0 (.inl (some (.int r.1))) (moE g mo sz r.2) 0 0 (moE g mo sz S) 4 [(0, .ref mo), (1, .int a1), (2, .int a2)] []) (S : MS) (a2 : Int32) (s0 : Int32) (s1 : Int32) (hf : fX9_off_28 k4 S a2 s0 s1 = some r) : AW MX9_off rmX9_off l g x0 (.inl (some (.int r.1))) (moE g mo sz r.2) 0 0 (moE g mo sz S) 28 [(0, .ref mo), (2, .int a2)] [.int s1, .int s0] := by
  rw [fX9_off_28] at hf
  refine aw_ior dX9_off_28 ?_
  refine aw_istore_n [(1, .int (s0 ||| s1)), (0, .ref mo), (2, .int a2)] dX9_off_29 rfl (by decide) rfl ?_
  refine aw_iinc [(2, .int (a2 + (1 : Int32))), (1, .int (s0 ||| s1)), (0, .ref mo)] 2 dX9_off_30 rfl rfl (by decide) rfl ?_
  refine aw_goto 4 dX9_off_33 (by decide) ?_
  refine aw_lv [2, 1, 0] rfl ?_
  exact hk4 _ _ _ hf
def fX9_off_4 : Nat → MS → Int32 → Int32 → Option (Int32 × MS)
  | 0, _, _, _ => none
  | n + 1, S, a1, a2 =>
    (if (m_i S 4) ≤ a2 then some (a1, S) else (fX9_isOff S a2).bind fun q2 => (if q2.1 = false then fX9_off_28 (fX9_off_4 n) q2.2 a2 a1 (0 : Int32) else fX9_off_28 (fX9_off_4 n) q2.2 a2 a1 (x_ishl (1 : Int32) a2)))
set_option maxHeartbeats 4000000 in
set_option maxRecDepth 100000 in
theorem wkX9_off_4 {l : Launch} {g : xG} {x0 : xV} {mo sz : Nat} (hl : l.stackTraces = false) {r : Int32 × MS} : ∀ (n : Nat) (S : MS) (a1 : Int32) (a2 : Int32), fX9_off_4 n S a1 a2 = some r → AW MX9_off rmX9_off l g x0 (.inl (some (.int r.1))) (moE g mo sz r.2) 0 0 (moE g mo sz S) 4 [(0, .ref mo), (1, .int a1), (2, .int a2)] [] := by
  intro n
  induction n with
  | zero => intro S a1 a2 hf; exact absurd hf (by simp [fX9_off_4])
  | succ n hk4 =>
    intro S a1 a2 hf
    rw [fX9_off_4] at hf
    refine aw_iload_n 2 dX9_off_4 rfl ?_
    refine aw_aload_n 0 dX9_off_5 rfl ?_
    refine mo_getI 4 rfl (by decide) (wl4 (i := 102) rfl rfl) dX9_off_6 ?_
    refine aw_icmp_ge 36 dX9_off_9 (by decide) (fun c1 => ?_) (fun c1 => ?_)
    · rw [if_pos c1] at hf
      refine aw_iload_n 1 dX9_off_36 rfl ?_
      cases hf
      exact aw_iret dX9_off_37 rfl rfl rfl ⟨Nat.le_of_ble_eq_true rfl, Nat.le_of_ble_eq_true rfl⟩
    · rw [if_neg c1] at hf
      refine aw_iload_n 1 dX9_off_12 rfl ?_
      refine aw_aload_n 0 dX9_off_13 rfl ?_
      refine aw_iload_n 2 dX9_off_14 rfl ?_
      obtain ⟨q2, hq2, hf⟩ := xbind hf
      refine aw_callV 7 (some mo) [.int a2] 1 rfl mo_ob rfl rfl (ctX9_isOff hl _ _ hq2) ⟨wl5 (i := 187) rfl rfl, ciX9_isOff⟩ (wl5 (i := 189) rfl rfl) (wl0 (i := 41) rfl rfl) dX9_off_15 rfl rfl (Nat.le_of_ble_eq_true rfl) ⟨Nat.le_of_ble_eq_true rfl, Nat.le_of_ble_eq_true rfl⟩ ⟨Nat.le_of_ble_eq_true rfl, Nat.le_of_ble_eq_true rfl⟩ ?_
      refine aw_ifb_eq 27 dX9_off_18 (by decide) (fun c3 => ?_) (fun c3 => ?_)
      · rw [if_pos c3] at hf
        refine aw_iconst (0 : Int32) dX9_off_27 (by decide) ?_
        refine aw_lv [0, 2] rfl ?_
        exact wkX9_off_28 hl _ hk4 _ _ _ _ hf
      · rw [if_neg c3] at hf
        refine aw_iconst (1 : Int32) dX9_off_21 (by decide) ?_
        refine aw_iload_n 2 dX9_off_22 rfl ?_
        refine aw_ishl dX9_off_23 ?_
        refine aw_goto 28 dX9_off_24 (by decide) ?_
        refine aw_lv [0, 2] rfl ?_
        exact wkX9_off_28 hl _ hk4 _ _ _ _ hf
def fX9_off (S : MS) : Option (Int32 × MS) :=
  fX9_off_4 FU S (0 : Int32) (0 : Int32)
set_option maxHeartbeats 4000000 in
set_option maxRecDepth 100000 in
theorem ctX9_off {l : Launch} {g : xG} {mo sz : Nat} (hl : l.stackTraces = false) {r : Int32 × MS} (S : MS) (hf : fX9_off S = some r) : CT yX9_off MX9_off rmX9_off l g [.ref mo] (moE g mo sz S) (.inl (some (.int r.1))) (moE g mo sz r.2) := by
  rw [fX9_off] at hf
  refine CT.of (lv0 := [(0, .ref mo)]) (by decide +kernel) rfl rfl (Nat.le_of_ble_eq_true rfl) rfl hl ?_
  refine aw_iconst (0 : Int32) dX9_off_0 (by decide) ?_
  refine aw_istore_n [(1, .int (0 : Int32)), (0, .ref mo)] dX9_off_1 rfl (by decide) rfl ?_
  refine aw_iconst (0 : Int32) dX9_off_2 (by decide) ?_
  refine aw_istore_n [(2, .int (0 : Int32)), (1, .int (0 : Int32)), (0, .ref mo)] dX9_off_3 rfl (by decide) rfl ?_
  refine aw_lv [2, 1, 0] rfl ?_
  exact wkX9_off_4 hl _ _ _ _ hf
abbrev MX9_judge : xM := (RX9, cX9_judge, 3, (some .int), "judge")
abbrev rmX9_judge : Room := { frames := 6, cells := 0, slots := 0, locals := 132 }
theorem ciX9_judge : Cond.code yX9_judge cX9_judge 3 (some .int) ∈ wt ∧ Cond.initialized yX9_judge.cls ∈ wt ∧ (yX9_judge.cls ≠ "java/lang/invoke/MethodHandle" ∧ yX9_judge.cls ≠ "java/lang/invoke/VarHandle" ∧ (parseMethodDescriptor yX9_judge.desc).map (fun d => d.parameters.length) = some 1) := ⟨wl5 (i := 178) rfl rfl, wl1 (i := 4) rfl rfl, by decide +kernel, by decide +kernel, by decide +kernel⟩
def fX9_judge_38 (S : MS) (a1 : Int32) (s1 : Int32) : Option (Int32 × MS) :=
  (fX9_fails S s1).bind fun q1 => (if q1.1 = false then (if xin a1 16 = true then (fX9_finds (ms_I q1.2 9 a1.toNatClampNeg (1 : Int32)) (m_i (ms_I q1.2 9 a1.toNatClampNeg (1 : Int32)) 19)).bind fun q4 => (fX9_off q4).bind fun q5 => some (q5.1, q5.2) else none) else some ((0 : Int32), q1.2))
set_option maxHeartbeats 4000000 in
set_option maxRecDepth 100000 in
theorem wkX9_judge_38 {l : Launch} {g : xG} {x0 : xV} {mo sz : Nat} (hl : l.stackTraces = false) {r : Int32 × MS} (S : MS) (a1 : Int32) (s1 : Int32) (hf : fX9_judge_38 S a1 s1 = some r) : AW MX9_judge rmX9_judge l g x0 (.inl (some (.int r.1))) (moE g mo sz r.2) 0 0 (moE g mo sz S) 38 [(0, .ref mo), (1, .int a1)] [.int s1, .ref mo] := by
  rw [fX9_judge_38] at hf
  obtain ⟨q1, hq1, hf⟩ := xbind hf
  refine aw_callV 7 (some mo) [.int s1] 1 rfl mo_ob rfl rfl (ctX9_fails hl _ _ hq1) ⟨wl5 (i := 16) rfl rfl, ciX9_fails⟩ (wl5 (i := 18) rfl rfl) (wl0 (i := 19) rfl rfl) dX9_judge_38 rfl rfl (Nat.le_of_ble_eq_true rfl) ⟨Nat.le_of_ble_eq_true rfl, Nat.le_of_ble_eq_true rfl⟩ ⟨Nat.le_of_ble_eq_true rfl, Nat.le_of_ble_eq_true rfl⟩ ?_
  refine aw_ifb_eq 46 dX9_judge_41 (by decide) (fun c2 => ?_) (fun c2 => ?_)
  · rw [if_pos c2] at hf
    refine aw_aload_n 0 dX9_judge_46 rfl ?_
    refine mo_getR 11 9 rfl (by decide) (wl4 (i := 109) rfl rfl) dX9_judge_47 ?_
    refine aw_iload_n 1 dX9_judge_50 rfl ?_
    refine aw_iconst (1 : Int32) dX9_judge_51 (by decide) ?_
    obtain ⟨hi3, hf⟩ := xifn hf
    refine mo_zast 9 16 rfl rfl (xin_v hi3) dX9_judge_52 ?_
    refine aw_aload_n 0 dX9_judge_53 rfl ?_
    refine aw_aload_n 0 dX9_judge_54 rfl ?_
    refine mo_getI 19 rfl (by decide) (wl4 (i := 117) rfl rfl) dX9_judge_55 ?_
    obtain ⟨q4, hq4, hf⟩ := xbind hf
    refine aw_callV 7 (some mo) [.int (m_i (ms_I q1.2 9 a1.toNatClampNeg (1 : Int32)) 19)] 1 rfl mo_ob rfl rfl (ctX9_finds hl _ _ hq4) ⟨wl5 (i := 179) rfl rfl, ciX9_finds⟩ (wl5 (i := 181) rfl rfl) (wl0 (i := 39) rfl rfl) dX9_judge_58 rfl rfl (Nat.le_of_ble_eq_true rfl) ⟨Nat.le_of_ble_eq_true rfl, Nat.le_of_ble_eq_true rfl⟩ ⟨Nat.le_of_ble_eq_true rfl, Nat.le_of_ble_eq_true rfl⟩ ?_
    refine aw_aload_n 0 dX9_judge_61 rfl ?_
    obtain ⟨q5, hq5, hf⟩ := xbind hf
    refine aw_callV 7 (some mo) [] 0 rfl mo_ob rfl rfl (ctX9_off hl _ hq5) ⟨wl5 (i := 183) rfl rfl, ciX9_off⟩ (wl5 (i := 185) rfl rfl) (wl0 (i := 40) rfl rfl) dX9_judge_62 rfl rfl (Nat.le_of_ble_eq_true rfl) ⟨Nat.le_of_ble_eq_true rfl, Nat.le_of_ble_eq_true rfl⟩ ⟨Nat.le_of_ble_eq_true rfl, Nat.le_of_ble_eq_true rfl⟩ ?_
    cases hf
    exact aw_iret dX9_judge_65 rfl rfl rfl ⟨Nat.le_of_ble_eq_true rfl, Nat.le_of_ble_eq_true rfl⟩
  · rw [if_neg c2] at hf
    refine aw_iconst (0 : Int32) dX9_judge_44 (by decide) ?_
    cases hf
    exact aw_iret dX9_judge_45 rfl rfl rfl ⟨Nat.le_of_ble_eq_true rfl, Nat.le_of_ble_eq_true rfl⟩
def fX9_judge (S : MS) (a1 : Int32) : Option (Int32 × MS) :=
  (fX9_isGame S a1).bind fun q1 => (if q1 = false then fX9_judge_38 S a1 (1 : Int32) else (if xin a1 16 = true then (if (m_I S 8 a1.toNatClampNeg) = 0 then fX9_judge_38 S a1 (2 : Int32) else (if (m_I S 9 a1.toNatClampNeg) = 0 then fX9_judge_38 S a1 (0 : Int32) else fX9_judge_38 S a1 (2 : Int32))) else none))
set_option maxHeartbeats 4000000 in
set_option maxRecDepth 100000 in
theorem ctX9_judge {l : Launch} {g : xG} {mo sz : Nat} (hl : l.stackTraces = false) {r : Int32 × MS} (S : MS) (a1 : Int32) (hf : fX9_judge S a1 = some r) : CT yX9_judge MX9_judge rmX9_judge l g [.ref mo, .int a1] (moE g mo sz S) (.inl (some (.int r.1))) (moE g mo sz r.2) := by
  rw [fX9_judge] at hf
  refine CT.of (lv0 := [(0, .ref mo), (1, .int a1)]) (by decide +kernel) rfl rfl (Nat.le_of_ble_eq_true rfl) rfl hl ?_
  refine aw_aload_n 0 dX9_judge_0 rfl ?_
  refine aw_iload_n 1 dX9_judge_1 rfl ?_
  obtain ⟨q1, hq1, hf⟩ := xbind hf
  refine aw_callV 7 (some mo) [.int a1] 1 rfl mo_ob rfl rfl (ctX9_isGame hl _ _ hq1) ⟨wl5 (i := 62) rfl rfl, ciX9_isGame⟩ (wl5 (i := 64) rfl rfl) (wl0 (i := 26) rfl rfl) dX9_judge_2 rfl rfl (Nat.le_of_ble_eq_true rfl) ⟨Nat.le_of_ble_eq_true rfl, Nat.le_of_ble_eq_true rfl⟩ ⟨Nat.le_of_ble_eq_true rfl, Nat.le_of_ble_eq_true rfl⟩ ?_
  refine aw_istore_n [(2, .int (bi q1)), (0, .ref mo), (1, .int a1)] dX9_judge_5 rfl (by decide) rfl ?_
  refine aw_aload_n 1 dX9_judge_6 rfl ?_
  refine aw_iload_n 0 dX9_judge_7 rfl ?_
  refine aw_ifb_ne 15 dX9_judge_8 (by decide) (fun c2 => ?_) (fun c2 => ?_)
  · rw [if_neg c2] at hf
    refine aw_aload_n 1 dX9_judge_15 rfl ?_
    refine mo_getR 10 8 rfl (by decide) (wl4 (i := 108) rfl rfl) dX9_judge_16 ?_
    refine aw_iload_n 2 dX9_judge_19 rfl ?_
    obtain ⟨hi3, hf⟩ := xifn hf
    refine mo_iald 8 16 rfl (xin_v hi3) dX9_judge_20 ?_
    refine aw_if_eq 33 dX9_judge_21 (by decide) (fun c4 => ?_) (fun c4 => ?_)
    · rw [if_pos c4] at hf
      refine aw_iconst (2 : Int32) dX9_judge_33 (by decide) ?_
      refine aw_goto 38 dX9_judge_34 (by decide) ?_
      refine aw_lv [1, 2] rfl ?_
      exact wkX9_judge_38 hl _ _ _ hf
    · rw [if_neg c4] at hf
      refine aw_aload_n 1 dX9_judge_24 rfl ?_
      refine mo_getR 11 9 rfl (by decide) (wl4 (i := 109) rfl rfl) dX9_judge_25 ?_
      refine aw_iload_n 2 dX9_judge_28 rfl ?_
      refine mo_zald 9 16 rfl (xin_v hi3) dX9_judge_29 ?_
      refine aw_if_eq 37 dX9_judge_30 (by decide) (fun c5 => ?_) (fun c5 => ?_)
      · rw [if_pos c5] at hf
        refine aw_iconst (0 : Int32) dX9_judge_37 (by decide) ?_
        refine aw_lv [1, 2] rfl ?_
        exact wkX9_judge_38 hl _ _ _ hf
      · rw [if_neg c5] at hf
        refine aw_iconst (2 : Int32) dX9_judge_33 (by decide) ?_
        refine aw_goto 38 dX9_judge_34 (by decide) ?_
        refine aw_lv [1, 2] rfl ?_
        exact wkX9_judge_38 hl _ _ _ hf
  · rw [if_pos c2] at hf
    refine aw_iconst (1 : Int32) dX9_judge_11 (by decide) ?_
    refine aw_goto 38 dX9_judge_12 (by decide) ?_
    refine aw_lv [1, 2] rfl ?_
    exact wkX9_judge_38 hl _ _ _ hf
abbrev MX9_lacks : xM := (RX9, cX9_lacks, 6, (some .int), "lacks")
abbrev rmX9_lacks : Room := { frames := 1, cells := 0, slots := 0, locals := 24 }
theorem ciX9_lacks : Cond.code yX9_lacks cX9_lacks 6 (some .int) ∈ wt ∧ Cond.initialized yX9_lacks.cls ∈ wt ∧ (yX9_lacks.cls ≠ "java/lang/invoke/MethodHandle" ∧ yX9_lacks.cls ≠ "java/lang/invoke/VarHandle" ∧ (parseMethodDescriptor yX9_lacks.desc).map (fun d => d.parameters.length) = some 2) := ⟨wl6 (i := 45) rfl rfl, wl1 (i := 4) rfl rfl, by decide +kernel, by decide +kernel, by decide +kernel⟩
def fX9_lacks_108 (k5 : MS → Int32 → Int32 → Int32 → Int32 → Option (Int32 × MS)) (S : MS) (a1 : Int32) (a2 : Int32) (a3 : Int32) (a4 : Int32) : Option (Int32 × MS) :=
  k5 S a1 a2 a3 (a4 + (1 : Int32))
set_option maxHeartbeats 4000000 in
set_option maxRecDepth 100000 in
theorem wkX9_lacks_108 {l : Launch} {g : xG} {x0 : xV} {mo sz : Nat} (hl : l.stackTraces = false) {r : Int32 × MS} (k5 : MS → Int32 → Int32 → Int32 → Int32 → Option (Int32 × MS)) (hk5 : ∀ (S : MS) (a1 : Int32) (a2 : Int32) (a3 : Int32) (a4 : Int32), k5 S a1 a2 a3 a4 = some r → AW MX9_lacks rmX9_lacks l g x0 (.inl (some (.int r.1))) (moE g mo sz r.2) 0 0 (moE g mo sz S) 5 [(0, .ref mo), (1, .int a1), (2, .int a2), (3, .int a3), (4, .int a4)] []) (S : MS) (a1 : Int32) (a2 : Int32) (a3 : Int32) (a4 : Int32) (hf : fX9_lacks_108 k5 S a1 a2 a3 a4 = some r) : AW MX9_lacks rmX9_lacks l g x0 (.inl (some (.int r.1))) (moE g mo sz r.2) 0 0 (moE g mo sz S) 108 [(0, .ref mo), (1, .int a1), (2, .int a2), (3, .int a3), (4, .int a4)] [] := by
  rw [fX9_lacks_108] at hf
  refine aw_iinc [(4, .int (a4 + (1 : Int32))), (0, .ref mo), (1, .int a1), (2, .int a2), (3, .int a3)] 4 dX9_lacks_108 rfl rfl (by decide) rfl ?_
  refine aw_goto 5 dX9_lacks_111 (by decide) ?_
  refine aw_lv [1, 2, 3, 4, 0] rfl ?_
  exact hk5 _ _ _ _ _ hf
def fX9_lacks_106 (k5 : MS → Int32 → Int32 → Int32 → Int32 → Option (Int32 × MS)) (S : MS) (a1 : Int32) (a2 : Int32) (a4 : Int32) (s0 : Int32) (s1 : Int32) : Option (Int32 × MS) :=
  fX9_lacks_108 k5 S a1 a2 (s0 + s1) a4
set_option maxHeartbeats 4000000 in
set_option maxRecDepth 100000 in
theorem wkX9_lacks_106 {l : Launch} {g : xG} {x0 : xV} {mo sz : Nat} (hl : l.stackTraces = false) {r : Int32 × MS} (k5 : MS → Int32 → Int32 → Int32 → Int32 → Option (Int32 × MS)) (hk5 : ∀ (S : MS) (a1 : Int32) (a2 : Int32) (a3 : Int32) (a4 : Int32), k5 S a1 a2 a3 a4 = some r → AW MX9_lacks rmX9_lacks l g x0 (.inl (some (.int r.1))) (moE g mo sz r.2) 0 0 (moE g mo sz S) 5 [(0, .ref mo), (1, .int a1), (2, .int a2), (3, .int a3), (4, .int a4)] []) (S : MS) (a1 : Int32) (a2 : Int32) (a4 : Int32) (s0 : Int32) (s1 : Int32) (hf : fX9_lacks_106 k5 S a1 a2 a4 s0 s1 = some r) : AW MX9_lacks rmX9_lacks l g x0 (.inl (some (.int r.1))) (moE g mo sz r.2) 0 0 (moE g mo sz S) 106 [(0, .ref mo), (1, .int a1), (2, .int a2), (4, .int a4)] [.int s1, .int s0] := by
  rw [fX9_lacks_106] at hf
  refine aw_iadd dX9_lacks_106 ?_
  refine aw_istore_n [(3, .int (s0 + s1)), (0, .ref mo), (1, .int a1), (2, .int a2), (4, .int a4)] dX9_lacks_107 rfl (by decide) rfl ?_
  refine aw_lv [1, 2, 3, 0, 4] rfl ?_
  exact wkX9_lacks_108 hl _ hk5 _ _ _ _ _ hf
def fX9_lacks_88 (k5 : MS → Int32 → Int32 → Int32 → Int32 → Option (Int32 × MS)) (S : MS) (a1 : Int32) (a2 : Int32) (a3 : Int32) (a4 : Int32) (s1 : Int32) (s2 : Int32) : Option (Int32 × MS) :=
  (if xin s1 60 = true then (if xin a4 60 = true then (if (m_I (ms_I S 37 s1.toNatClampNeg s2) 37 a4.toNatClampNeg) = (-1 : Int32) then fX9_lacks_106 k5 (ms_I S 37 s1.toNatClampNeg s2) a1 a2 a4 a3 (1 : Int32) else fX9_lacks_106 k5 (ms_I S 37 s1.toNatClampNeg s2) a1 a2 a4 a3 (0 : Int32)) else none) else none)
set_option maxHeartbeats 4000000 in
set_option maxRecDepth 100000 in
theorem wkX9_lacks_88 {l : Launch} {g : xG} {x0 : xV} {mo sz : Nat} (hl : l.stackTraces = false) {r : Int32 × MS} (k5 : MS → Int32 → Int32 → Int32 → Int32 → Option (Int32 × MS)) (hk5 : ∀ (S : MS) (a1 : Int32) (a2 : Int32) (a3 : Int32) (a4 : Int32), k5 S a1 a2 a3 a4 = some r → AW MX9_lacks rmX9_lacks l g x0 (.inl (some (.int r.1))) (moE g mo sz r.2) 0 0 (moE g mo sz S) 5 [(0, .ref mo), (1, .int a1), (2, .int a2), (3, .int a3), (4, .int a4)] []) (S : MS) (a1 : Int32) (a2 : Int32) (a3 : Int32) (a4 : Int32) (s1 : Int32) (s2 : Int32) (hf : fX9_lacks_88 k5 S a1 a2 a3 a4 s1 s2 = some r) : AW MX9_lacks rmX9_lacks l g x0 (.inl (some (.int r.1))) (moE g mo sz r.2) 0 0 (moE g mo sz S) 88 [(0, .ref mo), (1, .int a1), (2, .int a2), (3, .int a3), (4, .int a4)] [.int s2, .int s1, .ref (mo + 1 + 37)] := by
  rw [fX9_lacks_88] at hf
  obtain ⟨hi1, hf⟩ := xifn hf
  refine mo_iast 37 60 rfl (xin_v hi1) dX9_lacks_88 ?_
  refine aw_iload_n 3 dX9_lacks_89 rfl ?_
  refine aw_aload_n 0 dX9_lacks_90 rfl ?_
  refine mo_getR 46 37 rfl (by decide) (wl4 (i := 144) rfl rfl) dX9_lacks_91 ?_
  refine aw_iload 4 dX9_lacks_94 rfl ?_
  obtain ⟨hi2, hf⟩ := xifn hf
  refine mo_iald 37 60 rfl (xin_v hi2) dX9_lacks_96 ?_
  refine aw_iconst (-1 : Int32) dX9_lacks_97 (by decide) ?_
  refine aw_icmp_ne 105 dX9_lacks_98 (by decide) (fun c3 => ?_) (fun c3 => ?_)
  · rw [if_neg c3] at hf
    refine aw_iconst (0 : Int32) dX9_lacks_105 (by decide) ?_
    refine aw_lv [0, 1, 2, 4] rfl ?_
    exact wkX9_lacks_106 hl _ hk5 _ _ _ _ _ _ hf
  · rw [if_pos c3] at hf
    refine aw_iconst (1 : Int32) dX9_lacks_101 (by decide) ?_
    refine aw_goto 106 dX9_lacks_102 (by decide) ?_
    refine aw_lv [0, 1, 2, 4] rfl ?_
    exact wkX9_lacks_106 hl _ hk5 _ _ _ _ _ _ hf
def fX9_lacks_47 (k5 : MS → Int32 → Int32 → Int32 → Int32 → Option (Int32 × MS)) (S : MS) (a1 : Int32) (a2 : Int32) (a3 : Int32) (a4 : Int32) (s0 : Int32) : Option (Int32 × MS) :=
  (if a4 = a1 then fX9_lacks_88 k5 S a1 a2 a3 a4 a4 a2 else (if s0 = (-1 : Int32) then fX9_lacks_88 k5 S a1 a2 a3 a4 a4 (-1 : Int32) else (if xin a4 60 = true then (fX9_child S s0 (m_I S 30 a4.toNatClampNeg)).bind fun q4 => fX9_lacks_88 k5 S a1 a2 a3 a4 a4 q4 else none)))
set_option maxHeartbeats 4000000 in
set_option maxRecDepth 100000 in
theorem wkX9_lacks_47 {l : Launch} {g : xG} {x0 : xV} {mo sz : Nat} (hl : l.stackTraces = false) {r : Int32 × MS} (k5 : MS → Int32 → Int32 → Int32 → Int32 → Option (Int32 × MS)) (hk5 : ∀ (S : MS) (a1 : Int32) (a2 : Int32) (a3 : Int32) (a4 : Int32), k5 S a1 a2 a3 a4 = some r → AW MX9_lacks rmX9_lacks l g x0 (.inl (some (.int r.1))) (moE g mo sz r.2) 0 0 (moE g mo sz S) 5 [(0, .ref mo), (1, .int a1), (2, .int a2), (3, .int a3), (4, .int a4)] []) (S : MS) (a1 : Int32) (a2 : Int32) (a3 : Int32) (a4 : Int32) (s0 : Int32) (hf : fX9_lacks_47 k5 S a1 a2 a3 a4 s0 = some r) : AW MX9_lacks rmX9_lacks l g x0 (.inl (some (.int r.1))) (moE g mo sz r.2) 0 0 (moE g mo sz S) 47 [(0, .ref mo), (1, .int a1), (2, .int a2), (3, .int a3), (4, .int a4)] [.int s0] := by
  rw [fX9_lacks_47] at hf
  refine aw_istore [(5, .int s0), (0, .ref mo), (1, .int a1), (2, .int a2), (3, .int a3), (4, .int a4)] dX9_lacks_47 (by decide) rfl ?_
  refine aw_aload_n 1 dX9_lacks_49 rfl ?_
  refine mo_getR 46 37 rfl (by decide) (wl4 (i := 144) rfl rfl) dX9_lacks_50 ?_
  refine aw_iload 5 dX9_lacks_53 rfl ?_
  refine aw_iload 5 dX9_lacks_55 rfl ?_
  refine aw_iload_n 2 dX9_lacks_57 rfl ?_
  refine aw_icmp_ne 65 dX9_lacks_58 (by decide) (fun c1 => ?_) (fun c1 => ?_)
  · rw [if_neg c1] at hf
    refine aw_iload 0 dX9_lacks_65 rfl ?_
    refine aw_iconst (-1 : Int32) dX9_lacks_67 (by decide) ?_
    refine aw_icmp_ne 75 dX9_lacks_68 (by decide) (fun c2 => ?_) (fun c2 => ?_)
    · rw [if_neg c2] at hf
      refine aw_aload_n 1 dX9_lacks_75 rfl ?_
      refine aw_iload 0 dX9_lacks_76 rfl ?_
      refine aw_aload_n 1 dX9_lacks_78 rfl ?_
      refine mo_getR 39 30 rfl (by decide) (wl4 (i := 137) rfl rfl) dX9_lacks_79 ?_
      refine aw_iload 5 dX9_lacks_82 rfl ?_
      obtain ⟨hi3, hf⟩ := xifn hf
      refine mo_iald 30 60 rfl (xin_v hi3) dX9_lacks_84 ?_
      obtain ⟨q4, hq4, hf⟩ := xbind hf
      refine aw_callV 7 (some mo) [.int s0, .int (m_I S 30 a4.toNatClampNeg)] 2 rfl mo_ob rfl rfl (ctX9_child hl _ _ _ hq4) ⟨wl6 (i := 18) rfl rfl, ciX9_child⟩ (wl6 (i := 20) rfl rfl) (wl0 (i := 52) rfl rfl) dX9_lacks_85 rfl rfl (Nat.le_of_ble_eq_true rfl) ⟨Nat.le_of_ble_eq_true rfl, Nat.le_of_ble_eq_true rfl⟩ ⟨Nat.le_of_ble_eq_true rfl, Nat.le_of_ble_eq_true rfl⟩ ?_
      refine aw_lv [1, 2, 3, 4, 5] rfl ?_
      exact wkX9_lacks_88 hl _ hk5 _ _ _ _ _ _ _ hf
    · rw [if_pos c2] at hf
      refine aw_iconst (-1 : Int32) dX9_lacks_71 (by decide) ?_
      refine aw_goto 88 dX9_lacks_72 (by decide) ?_
      refine aw_lv [1, 2, 3, 4, 5] rfl ?_
      exact wkX9_lacks_88 hl _ hk5 _ _ _ _ _ _ _ hf
  · rw [if_pos c1] at hf
    refine aw_iload_n 3 dX9_lacks_61 rfl ?_
    refine aw_goto 88 dX9_lacks_62 (by decide) ?_
    refine aw_lv [1, 2, 3, 4, 5] rfl ?_
    exact wkX9_lacks_88 hl _ hk5 _ _ _ _ _ _ _ hf
def fX9_lacks_5 : Nat → MS → Int32 → Int32 → Int32 → Int32 → Option (Int32 × MS)
  | 0, _, _, _, _, _ => none
  | n + 1, S, a1, a2, a3, a4 =>
    (if (m_i S 36) ≤ a4 then some (a3, S) else (if xin a4 60 = true then (if (m_I S 29 a4.toNatClampNeg) = a1 then (if a4 = a1 then fX9_lacks_47 (fX9_lacks_5 n) S a1 a2 a3 a4 (-1 : Int32) else (if xin (m_I S 28 a4.toNatClampNeg) 60 = true then fX9_lacks_47 (fX9_lacks_5 n) S a1 a2 a3 a4 (m_I S 37 (m_I S 28 a4.toNatClampNeg).toNatClampNeg) else none)) else fX9_lacks_108 (fX9_lacks_5 n) S a1 a2 a3 a4) else none))
set_option maxHeartbeats 4000000 in
set_option maxRecDepth 100000 in
theorem wkX9_lacks_5 {l : Launch} {g : xG} {x0 : xV} {mo sz : Nat} (hl : l.stackTraces = false) {r : Int32 × MS} : ∀ (n : Nat) (S : MS) (a1 : Int32) (a2 : Int32) (a3 : Int32) (a4 : Int32), fX9_lacks_5 n S a1 a2 a3 a4 = some r → AW MX9_lacks rmX9_lacks l g x0 (.inl (some (.int r.1))) (moE g mo sz r.2) 0 0 (moE g mo sz S) 5 [(0, .ref mo), (1, .int a1), (2, .int a2), (3, .int a3), (4, .int a4)] [] := by
  intro n
  induction n with
  | zero => intro S a1 a2 a3 a4 hf; exact absurd hf (by simp [fX9_lacks_5])
  | succ n hk5 =>
    intro S a1 a2 a3 a4 hf
    rw [fX9_lacks_5] at hf
    refine aw_iload 4 dX9_lacks_5 rfl ?_
    refine aw_aload_n 0 dX9_lacks_7 rfl ?_
    refine mo_getI 36 rfl (by decide) (wl4 (i := 134) rfl rfl) dX9_lacks_8 ?_
    refine aw_icmp_ge 114 dX9_lacks_11 (by decide) (fun c1 => ?_) (fun c1 => ?_)
    · rw [if_pos c1] at hf
      refine aw_iload_n 3 dX9_lacks_114 rfl ?_
      cases hf
      exact aw_iret dX9_lacks_115 rfl rfl rfl ⟨Nat.le_of_ble_eq_true rfl, Nat.le_of_ble_eq_true rfl⟩
    · rw [if_neg c1] at hf
      refine aw_aload_n 0 dX9_lacks_14 rfl ?_
      refine mo_getR 38 29 rfl (by decide) (wl4 (i := 136) rfl rfl) dX9_lacks_15 ?_
      refine aw_iload 4 dX9_lacks_18 rfl ?_
      obtain ⟨hi2, hf⟩ := xifn hf
      refine mo_iald 29 60 rfl (xin_v hi2) dX9_lacks_20 ?_
      refine aw_iload_n 1 dX9_lacks_21 rfl ?_
      refine aw_icmp_ne 108 dX9_lacks_22 (by decide) (fun c3 => ?_) (fun c3 => ?_)
      · rw [if_neg c3] at hf
        refine aw_lv [0, 1, 2, 3, 4] rfl ?_
        exact wkX9_lacks_108 hl _ hk5 _ _ _ _ _ hf
      · rw [if_pos c3] at hf
        refine aw_iload 4 dX9_lacks_25 rfl ?_
        refine aw_iload_n 1 dX9_lacks_27 rfl ?_
        refine aw_icmp_ne 35 dX9_lacks_28 (by decide) (fun c4 => ?_) (fun c4 => ?_)
        · rw [if_neg c4] at hf
          refine aw_aload_n 0 dX9_lacks_35 rfl ?_
          refine mo_getR 46 37 rfl (by decide) (wl4 (i := 144) rfl rfl) dX9_lacks_36 ?_
          refine aw_aload_n 0 dX9_lacks_39 rfl ?_
          refine mo_getR 37 28 rfl (by decide) (wl4 (i := 135) rfl rfl) dX9_lacks_40 ?_
          refine aw_iload 4 dX9_lacks_43 rfl ?_
          refine mo_iald 28 60 rfl (xin_v hi2) dX9_lacks_45 ?_
          obtain ⟨hi5, hf⟩ := xifn hf
          refine mo_iald 37 60 rfl (xin_v hi5) dX9_lacks_46 ?_
          refine aw_lv [0, 1, 2, 3, 4] rfl ?_
          exact wkX9_lacks_47 hl _ hk5 _ _ _ _ _ _ hf
        · rw [if_pos c4] at hf
          refine aw_iconst (-1 : Int32) dX9_lacks_31 (by decide) ?_
          refine aw_goto 47 dX9_lacks_32 (by decide) ?_
          refine aw_lv [0, 1, 2, 3, 4] rfl ?_
          exact wkX9_lacks_47 hl _ hk5 _ _ _ _ _ _ hf
def fX9_lacks (S : MS) (a1 : Int32) (a2 : Int32) : Option (Int32 × MS) :=
  fX9_lacks_5 FU S a1 a2 (0 : Int32) (0 : Int32)
set_option maxHeartbeats 4000000 in
set_option maxRecDepth 100000 in
theorem ctX9_lacks {l : Launch} {g : xG} {mo sz : Nat} (hl : l.stackTraces = false) {r : Int32 × MS} (S : MS) (a1 : Int32) (a2 : Int32) (hf : fX9_lacks S a1 a2 = some r) : CT yX9_lacks MX9_lacks rmX9_lacks l g [.ref mo, .int a1, .int a2] (moE g mo sz S) (.inl (some (.int r.1))) (moE g mo sz r.2) := by
  rw [fX9_lacks] at hf
  refine CT.of (lv0 := [(0, .ref mo), (1, .int a1), (2, .int a2)]) (by decide +kernel) rfl rfl (Nat.le_of_ble_eq_true rfl) rfl hl ?_
  refine aw_iconst (0 : Int32) dX9_lacks_0 (by decide) ?_
  refine aw_istore_n [(3, .int (0 : Int32)), (0, .ref mo), (1, .int a1), (2, .int a2)] dX9_lacks_1 rfl (by decide) rfl ?_
  refine aw_iconst (0 : Int32) dX9_lacks_2 (by decide) ?_
  refine aw_istore [(4, .int (0 : Int32)), (3, .int (0 : Int32)), (0, .ref mo), (1, .int a1), (2, .int a2)] dX9_lacks_3 (by decide) rfl ?_
  refine aw_lv [2, 3, 4, 1, 0] rfl ?_
  exact wkX9_lacks_5 hl _ _ _ _ _ _ hf
abbrev MX9_reads : xM := (RX9, cX9_reads, 9, (some .boolean), "reads")
abbrev rmX9_reads : Room := { frames := 6, cells := 0, slots := 0, locals := 176 }
theorem ciX9_reads : Cond.code yX9_reads cX9_reads 9 (some .boolean) ∈ wt ∧ Cond.initialized yX9_reads.cls ∈ wt ∧ (yX9_reads.cls ≠ "java/lang/invoke/MethodHandle" ∧ yX9_reads.cls ≠ "java/lang/invoke/VarHandle" ∧ (parseMethodDescriptor yX9_reads.desc).map (fun d => d.parameters.length) = some 4) := ⟨wl5 (i := 210) rfl rfl, wl1 (i := 4) rfl rfl, by decide +kernel, by decide +kernel, by decide +kernel⟩
def fX9_reads (S : MS) (a1 : Int32) (a2 : Int32) (a3 : Int32) (a4 : Int32) : Option (Bool × MS) :=
  (if xin a1 16 = true then (if xin (m_I S 11 a1.toNatClampNeg) 4096 = true then (fX9_isEmpty (m_J S 18 (m_I S 11 a1.toNatClampNeg).toNatClampNeg) (m_J S 19 (m_I S 11 a1.toNatClampNeg).toNatClampNeg) a2).bind fun q3 => (if q3 = false then (fX9_catches S (m_J S 18 (m_I S 11 a1.toNatClampNeg).toNatClampNeg) (m_J S 19 (m_I S 11 a1.toNatClampNeg).toNatClampNeg) a2 a3 a4).bind fun q5 => (if q5.1 = false then some (false, q5.2) else some (true, q5.2)) else some (false, S)) else none) else none)
set_option maxHeartbeats 4000000 in
set_option maxRecDepth 100000 in
theorem ctX9_reads {l : Launch} {g : xG} {mo sz : Nat} (hl : l.stackTraces = false) {r : Bool × MS} (S : MS) (a1 : Int32) (a2 : Int32) (a3 : Int32) (a4 : Int32) (hf : fX9_reads S a1 a2 a3 a4 = some r) : CT yX9_reads MX9_reads rmX9_reads l g [.ref mo, .int a1, .int a2, .int a3, .int a4] (moE g mo sz S) (.inl (some (.int (bi r.1)))) (moE g mo sz r.2) := by
  rw [fX9_reads] at hf
  refine CT.of (lv0 := [(0, .ref mo), (1, .int a1), (2, .int a2), (3, .int a3), (4, .int a4)]) (by decide +kernel) rfl rfl (Nat.le_of_ble_eq_true rfl) rfl hl ?_
  refine aw_aload_n 0 dX9_reads_0 rfl ?_
  refine mo_getR 22 18 rfl (by decide) (wl4 (i := 120) rfl rfl) dX9_reads_1 ?_
  refine aw_aload_n 0 dX9_reads_4 rfl ?_
  refine mo_getR 13 11 rfl (by decide) (wl4 (i := 111) rfl rfl) dX9_reads_5 ?_
  refine aw_iload_n 1 dX9_reads_8 rfl ?_
  obtain ⟨hi1, hf⟩ := xifn hf
  refine mo_iald 11 16 rfl (xin_v hi1) dX9_reads_9 ?_
  obtain ⟨hi2, hf⟩ := xifn hf
  refine mo_lald 18 4096 rfl (xin_v hi2) dX9_reads_10 ?_
  refine aw_lstore [(5, .long (m_J S 18 (m_I S 11 a1.toNatClampNeg).toNatClampNeg)), (0, .ref mo), (1, .int a1), (2, .int a2), (3, .int a3), (4, .int a4)] dX9_reads_11 (by decide) rfl ?_
  refine aw_aload_n 1 dX9_reads_13 rfl ?_
  refine mo_getR 23 19 rfl (by decide) (wl4 (i := 121) rfl rfl) dX9_reads_14 ?_
  refine aw_aload_n 1 dX9_reads_17 rfl ?_
  refine mo_getR 13 11 rfl (by decide) (wl4 (i := 111) rfl rfl) dX9_reads_18 ?_
  refine aw_iload_n 2 dX9_reads_21 rfl ?_
  refine mo_iald 11 16 rfl (xin_v hi1) dX9_reads_22 ?_
  refine mo_lald 19 4096 rfl (xin_v hi2) dX9_reads_23 ?_
  refine aw_lstore [(7, .long (m_J S 19 (m_I S 11 a1.toNatClampNeg).toNatClampNeg)), (5, .long (m_J S 18 (m_I S 11 a1.toNatClampNeg).toNatClampNeg)), (0, .ref mo), (1, .int a1), (2, .int a2), (3, .int a3), (4, .int a4)] dX9_reads_24 (by decide) rfl ?_
  refine aw_aload_n 2 dX9_reads_26 rfl ?_
  refine aw_lload 1 dX9_reads_27 rfl ?_
  refine aw_lload 0 dX9_reads_29 rfl ?_
  refine aw_iload_n 4 dX9_reads_31 rfl ?_
  obtain ⟨q3, hq3, hf⟩ := xbind hf
  refine aw_callV 7 (some mo) [.long (m_J S 18 (m_I S 11 a1.toNatClampNeg).toNatClampNeg), .long (m_J S 19 (m_I S 11 a1.toNatClampNeg).toNatClampNeg), .int a2] 3 rfl mo_ob rfl rfl (ctX9_isEmpty hl _ _ _ hq3) ⟨wl5 (i := 73) rfl rfl, ciX9_isEmpty⟩ (wl5 (i := 75) rfl rfl) (wl0 (i := 28) rfl rfl) dX9_reads_32 rfl rfl (Nat.le_of_ble_eq_true rfl) ⟨Nat.le_of_ble_eq_true rfl, Nat.le_of_ble_eq_true rfl⟩ ⟨Nat.le_of_ble_eq_true rfl, Nat.le_of_ble_eq_true rfl⟩ ?_
  refine aw_ifb_ne 57 dX9_reads_35 (by decide) (fun c4 => ?_) (fun c4 => ?_)
  · rw [if_neg c4] at hf
    refine aw_iconst (0 : Int32) dX9_reads_57 (by decide) ?_
    cases hf
    exact aw_zret dX9_reads_58 rfl rfl rfl rfl ⟨Nat.le_of_ble_eq_true rfl, Nat.le_of_ble_eq_true rfl⟩
  · rw [if_pos c4] at hf
    refine aw_aload_n 2 dX9_reads_38 rfl ?_
    refine aw_lload 1 dX9_reads_39 rfl ?_
    refine aw_lload 0 dX9_reads_41 rfl ?_
    refine aw_iload_n 4 dX9_reads_43 rfl ?_
    refine aw_iload_n 5 dX9_reads_44 rfl ?_
    refine aw_iload 6 dX9_reads_45 rfl ?_
    obtain ⟨q5, hq5, hf⟩ := xbind hf
    refine aw_callV 7 (some mo) [.long (m_J S 18 (m_I S 11 a1.toNatClampNeg).toNatClampNeg), .long (m_J S 19 (m_I S 11 a1.toNatClampNeg).toNatClampNeg), .int a2, .int a3, .int a4] 5 rfl mo_ob rfl rfl (ctX9_catches hl _ _ _ _ _ _ hq5) ⟨wl5 (i := 211) rfl rfl, ciX9_catches⟩ (wl5 (i := 213) rfl rfl) (wl0 (i := 44) rfl rfl) dX9_reads_47 rfl rfl (Nat.le_of_ble_eq_true rfl) ⟨Nat.le_of_ble_eq_true rfl, Nat.le_of_ble_eq_true rfl⟩ ⟨Nat.le_of_ble_eq_true rfl, Nat.le_of_ble_eq_true rfl⟩ ?_
    refine aw_ifb_eq 57 dX9_reads_50 (by decide) (fun c6 => ?_) (fun c6 => ?_)
    · rw [if_pos c6] at hf
      refine aw_iconst (0 : Int32) dX9_reads_57 (by decide) ?_
      cases hf
      exact aw_zret dX9_reads_58 rfl rfl rfl rfl ⟨Nat.le_of_ble_eq_true rfl, Nat.le_of_ble_eq_true rfl⟩
    · rw [if_neg c6] at hf
      refine aw_iconst (1 : Int32) dX9_reads_53 (by decide) ?_
      refine aw_goto 58 dX9_reads_54 (by decide) ?_
      cases hf
      exact aw_zret dX9_reads_58 rfl rfl rfl rfl ⟨Nat.le_of_ble_eq_true rfl, Nat.le_of_ble_eq_true rfl⟩
