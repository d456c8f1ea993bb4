/-! The law's own methods that call the class, as predicates: what must hold for the method to come to its end with K. -/
abbrev ML_areGames : xM := (RL, cL_areGames, 12, (some .boolean), "areGames")
abbrev rmL_areGames : Room := { frames := 9, cells := 236, slots := 1416, locals := 159 }
theorem ciL_areGames : Cond.code yL_areGames cL_areGames 12 (some .boolean) ∈ wt ∧ Cond.initialized yL_areGames.cls ∈ wt ∧ (yL_areGames.cls ≠ "java/lang/invoke/MethodHandle" ∧ yL_areGames.cls ≠ "java/lang/invoke/VarHandle" ∧ (parseMethodDescriptor yL_areGames.desc).map (fun d => d.parameters.length) = some 9) := ⟨wl3 (i := 197) rfl rfl, wl1 (i := 0) rfl rfl, by decide +kernel, by decide +kernel, by decide +kernel⟩
def gL_areGames_384 (lo t Ls : Nat) (xs : Nat → Int32) (K : Int32 → TH → MS → Prop) (k162 : TH → MS → Int32 → Int32 → Prop) (h : TH) (L : MS) (a10 : Int32) (s0 : Int32) : Prop :=
  k162 h L s0 (a10 + (1 : Int32))
set_option maxHeartbeats 4000000 in
set_option maxRecDepth 100000 in
theorem wkL_areGames_384 {l : Launch} {g : xG} {x0 : xV} {b lo t Ls : Nat} {xs : Nat → Int32} {K : Int32 → TH → MS → Prop} {kc ks : Nat} {Y Y2 : Nat} (hl : l.stackTraces = false) (hb : b + 8 < lo) (hb0 : b < x0.1 ∧ x0.2 b = none) (k162 : TH → MS → Int32 → Int32 → Prop) (hk162 : ∀ (kc ks : Nat) (h : TH) (L : MS) (a9 : Int32) (a10 : Int32), LDp lo h → (kc + Y ≤ 236 ∧ ks + Y2 ≤ 1416) → k162 h L a9 a10 → AWG (XS b Ls xs) (zR rmL_areGames g lo x0 K) ML_areGames rmL_areGames l g x0 kc ks (LW g lo h L) 162 [(0, va_rf (some t)), (1, .ref (lo + 0)), (2, .ref (lo + 1)), (3, .ref (lo + 2)), (4, .ref (lo + 3)), (5, .ref (lo + 4)), (6, .ref (lo + 5)), (7, .ref (lo + 6)), (8, .ref (lo + 7)), (9, .int a9), (10, .int a10)] []) (hY : 0 ≤ Y ∧ 0 ≤ Y2) (h : TH) (L : MS) (a10 : Int32) (s0 : Int32) (hD : LDp lo h) (hc : kc + (0 + Y) ≤ 236 ∧ ks + (0 + Y2) ≤ 1416) (hf : gL_areGames_384 lo t Ls xs K k162 h L a10 s0) : AWG (XS b Ls xs) (zR rmL_areGames g lo x0 K) ML_areGames rmL_areGames l g x0 kc ks (LW g lo h L) 384 [(0, va_rf (some t)), (1, .ref (lo + 0)), (2, .ref (lo + 1)), (3, .ref (lo + 2)), (4, .ref (lo + 3)), (5, .ref (lo + 4)), (6, .ref (lo + 5)), (7, .ref (lo + 6)), (8, .ref (lo + 7)), (10, .int a10)] [.int s0] := by
  rw [gL_areGames_384] at hf
  refine ag_istore [(9, .int s0), (0, va_rf (some t)), (1, .ref (lo + 0)), (2, .ref (lo + 1)), (3, .ref (lo + 2)), (4, .ref (lo + 3)), (5, .ref (lo + 4)), (6, .ref (lo + 5)), (7, .ref (lo + 6)), (8, .ref (lo + 7)), (10, .int a10)] dL_areGames_384 (by decide) rfl ?_
  refine ag_iinc [(10, .int (a10 + (1 : Int32))), (9, .int s0), (0, va_rf (some t)), (1, .ref (lo + 0)), (2, .ref (lo + 1)), (3, .ref (lo + 2)), (4, .ref (lo + 3)), (5, .ref (lo + 4)), (6, .ref (lo + 5)), (7, .ref (lo + 6)), (8, .ref (lo + 7))] 10 dL_areGames_386 rfl rfl (by decide) rfl ?_
  refine ag_goto 162 dL_areGames_389 (by decide) ?_
  refine ag_lv [2, 3, 4, 5, 6, 7, 8, 9, 10, 1, 0] rfl ?_
  exact hk162 _ _ _ _ _ _ hD ⟨show kc + Y ≤ 236 by omega, show ks + Y2 ≤ 1416 by omega⟩ hf
def gL_areGames_162 (lo t Ls : Nat) (xs : Nat → Int32) (K : Int32 → TH → MS → Prop) : Nat → TH → MS → Int32 → Int32 → Prop
  | 0, _, _, _, _ => False
  | n + 1, h, L, a9, a10 =>
    (if (m_I L 7 (1 : Int32).toNatClampNeg) ≤ a10 then (∃ b2, a9 = bi b2 ∧ K a9 h L) else (if a9 = 0 then (∃ b4, a9 = bi b4 ∧ K a9 h L) else (∃ q5, fL_latest L a10 = some q5 ∧ (t_kd h t = 7 ∧ ∃ v8 h9, fX8_state h t a10 = some (.inl (v8, h9)) ∧ LDp lo h9 ∧ (xin ((32 : Int32) + a10) 64 = true ∧ (xin ((48 : Int32) + a10) 64 = true ∧ (if v8 = ((m_I L 4 ((32 : Int32) + a10).toNatClampNeg) + ((10 : Int32) * ((m_I L 4 ((48 : Int32) + a10).toNatClampNeg) - (m_I L 4 ((48 : Int32) + a10).toNatClampNeg) / (2 : Int32) * (2 : Int32)))) then (t_kd h9 t = 7 ∧ ∃ v16 h17, fX8_handicap h9 t a10 = some (.inl (v16, h17)) ∧ LDp lo h17 ∧ (xin ((16 : Int32) + a10) 64 = true ∧ (if v16 = (m_I L 4 ((16 : Int32) + a10).toNatClampNeg) then (t_kd h17 t = 7 ∧ ∃ v23 h24, fX8_due h17 t a10 = some (.inl (v23, h24)) ∧ LDp lo h24 ∧ (∃ q26, fL_due L a10 = some q26 ∧ (if v23 = q26.1 then (t_kd h24 t = 7 ∧ ∃ v30 h31, fX8_clock h24 t a10 (0 : Int32) = some (.inl (v30, h31)) ∧ LDp lo h31 ∧ (xin a10 64 = true ∧ (if v30 = (((10 : Int32) * (m_I q26.2 5 a10.toNatClampNeg)) + ((m_I q26.2 5 ((32 : Int32) + a10).toNatClampNeg) / (10 : Int32))) then (t_kd h31 t = 7 ∧ ∃ v37 h38, fX8_clock h31 t a10 (1 : Int32) = some (.inl (v37, h38)) ∧ LDp lo h38 ∧ (if v37 = (((10 : Int32) * (m_I q26.2 5 ((16 : Int32) + a10).toNatClampNeg)) + ((m_I q26.2 5 ((32 : Int32) + a10).toNatClampNeg) - (m_I q26.2 5 ((32 : Int32) + a10).toNatClampNeg) / (10 : Int32) * (10 : Int32))) then (t_kd h38 t = 7 ∧ ∃ v43 h44, fX8_score h38 t a10 = some (.inl (v43, h44)) ∧ LDp lo h44 ∧ (xin q5 64 = true ∧ (∃ q47, fL_score (m_J q26.2 0 q5.toNatClampNeg) (m_J q26.2 1 q5.toNatClampNeg) ((m_I q26.2 4 ((16 : Int32) + a10).toNatClampNeg) - (m_I q26.2 4 ((16 : Int32) + a10).toNatClampNeg) / (10 : Int32) * (10 : Int32)) = some q47 ∧ (if v43 = q47 then gL_asks lo t Ls xs (fun v50 h51 L52 => (if v50 = (-3000 : Int32) then gL_asks lo t Ls xs (fun v56 h57 L58 => (if v56 = (-3000 : Int32) then gL_areGames_384 lo t Ls xs K (gL_areGames_162 lo t Ls xs K n) h57 L58 a10 (1 : Int32) else gL_areGames_384 lo t Ls xs K (gL_areGames_162 lo t Ls xs K n) h57 L58 a10 (0 : Int32))) h51 L52 (3 : Int32) a10 (49 : Int32) else gL_areGames_384 lo t Ls xs K (gL_areGames_162 lo t Ls xs K n) h51 L52 a10 (0 : Int32))) h44 q26.2 (4 : Int32) a10 (2 : Int32) else gL_areGames_384 lo t Ls xs K (gL_areGames_162 lo t Ls xs K n) h44 q26.2 a10 (0 : Int32))))) else gL_areGames_384 lo t Ls xs K (gL_areGames_162 lo t Ls xs K n) h38 q26.2 a10 (0 : Int32))) else gL_areGames_384 lo t Ls xs K (gL_areGames_162 lo t Ls xs K n) h31 q26.2 a10 (0 : Int32)))) else gL_areGames_384 lo t Ls xs K (gL_areGames_162 lo t Ls xs K n) h24 q26.2 a10 (0 : Int32)))) else gL_areGames_384 lo t Ls xs K (gL_areGames_162 lo t Ls xs K n) h17 L a10 (0 : Int32)))) else gL_areGames_384 lo t Ls xs K (gL_areGames_162 lo t Ls xs K n) h9 L a10 (0 : Int32))))))))
set_option maxHeartbeats 4000000 in
set_option maxRecDepth 100000 in
theorem wkL_areGames_162 {l : Launch} {g : xG} {x0 : xV} {b lo t Ls : Nat} {xs : Nat → Int32} {K : Int32 → TH → MS → Prop} (hl : l.stackTraces = false) (hb : b + 8 < lo) (hb0 : b < x0.1 ∧ x0.2 b = none) : ∀ (n kc ks : Nat) (h : TH) (L : MS) (a9 : Int32) (a10 : Int32), LDp lo h → (kc + (12 * n + 0) ≤ 236 ∧ ks + (72 * n + 0) ≤ 1416) → gL_areGames_162 lo t Ls xs K n h L a9 a10 → AWG (XS b Ls xs) (zR rmL_areGames g lo x0 K) ML_areGames rmL_areGames l g x0 kc ks (LW g lo h L) 162 [(0, va_rf (some t)), (1, .ref (lo + 0)), (2, .ref (lo + 1)), (3, .ref (lo + 2)), (4, .ref (lo + 3)), (5, .ref (lo + 4)), (6, .ref (lo + 5)), (7, .ref (lo + 6)), (8, .ref (lo + 7)), (9, .int a9), (10, .int a10)] [] := by
  intro n
  induction n with
  | zero => intro kc ks h L a9 a10 hD hc hf; exact absurd hf (by simp [gL_areGames_162])
  | succ n hk162 =>
    intro kc ks h L a9 a10 hD hc hf
    rw [gL_areGames_162] at hf
    refine ag_iload 10 dL_areGames_162 rfl ?_
    refine ag_aload 8 dL_areGames_164 rfl ?_
    refine ag_iconst (1 : Int32) dL_areGames_166 (by decide) ?_
    refine ar_iald 7 5 hD rfl (by decide) (xin_v (by decide)) dL_areGames_167 ?_
    refine ag_icmp_ge 392 dL_areGames_168 (by decide) (fun c1 => ?_) (fun c1 => ?_)
    · rw [if_pos c1] at hf
      refine ag_iload 9 dL_areGames_392 rfl ?_
      obtain ⟨b2, hb2, hf⟩ := hf
      exact agr_zret hD hf (by rw [hb2]; exact nar_b _) dL_areGames_394 rfl ⟨show kc + 0 ≤ 236 by omega, show ks + 0 ≤ 1416 by omega⟩
    · rw [if_neg c1] at hf
      refine ag_iload 9 dL_areGames_171 rfl ?_
      refine ag_if_eq 392 dL_areGames_173 (by decide) (fun c3 => ?_) (fun c3 => ?_)
      · rw [if_pos c3] at hf
        refine ag_iload 9 dL_areGames_392 rfl ?_
        obtain ⟨b4, hb4, hf⟩ := hf
        exact agr_zret hD hf (by rw [hb4]; exact nar_b _) dL_areGames_394 rfl ⟨show kc + 0 ≤ 236 by omega, show ks + 0 ≤ 1416 by omega⟩
      · rw [if_neg c3] at hf
        refine ag_aload_n 3 dL_areGames_176 rfl ?_
        refine ag_aload 8 dL_areGames_177 rfl ?_
        refine ag_iload 10 dL_areGames_179 rfl ?_
        obtain ⟨q5, hq5, hf⟩ := hf
        refine ag_callS [.ref (lo + 2), .ref (lo + 7), .int a10] 3 (ctA hD (ctL_latest hl _ _ hq5)) ⟨wl4 (i := 34) rfl rfl, ciL_latest⟩ (wl4 (i := 35) rfl rfl) dL_areGames_181 rfl rfl (Nat.le_of_ble_eq_true rfl) ⟨Nat.le_of_ble_eq_true rfl, Nat.le_of_ble_eq_true rfl⟩ ⟨show kc + 0 + 0 ≤ 236 by omega, show ks + 0 + 0 ≤ 1416 by omega⟩ (fun _ => ?_)
        refine ag_istore [(11, .int q5), (0, va_rf (some t)), (1, .ref (lo + 0)), (2, .ref (lo + 1)), (3, .ref (lo + 2)), (4, .ref (lo + 3)), (5, .ref (lo + 4)), (6, .ref (lo + 5)), (7, .ref (lo + 6)), (8, .ref (lo + 7)), (9, .int a9), (10, .int a10)] dL_areGames_184 (by decide) rfl ?_
        refine ag_qload_n 1 dL_areGames_186 rfl ?_
        refine ag_iload 11 dL_areGames_187 rfl ?_
        obtain ⟨hk_6, v8, h9, q7, hD10, hf⟩ := hf
        refine ag_callV 6 (some t) [.int a10] 1 rfl (LW_ob hk_6) rfl rfl (ctC hD (ctX8_state hl h _ _ q7)) ⟨wl3 (i := 206) rfl rfl, ciX8_state.1, ciX8_state.2.1, ciX8_state.2.2⟩ (wl3 (i := 207) rfl rfl) (wl3 (i := 208) rfl rfl) dL_areGames_189 rfl rfl (Nat.le_of_ble_eq_true rfl) ⟨Nat.le_of_ble_eq_true rfl, Nat.le_of_ble_eq_true rfl⟩ ⟨show kc + 0 + 1 ≤ 236 by omega, show ks + 0 + 6 ≤ 1416 by omega⟩ (fun _ => ?_)
        refine ag_aload 6 dL_areGames_192 rfl ?_
        refine ag_bipush (32 : Int32) dL_areGames_194 (by decide) ?_
        refine ag_iload 11 dL_areGames_196 rfl ?_
        refine ag_iadd dL_areGames_198 ?_
        obtain ⟨hi11, hf⟩ := hf
        refine ar_iald 4 64 hD10 rfl (by decide) (xin_v hi11) dL_areGames_199 ?_
        refine ag_bipush (10 : Int32) dL_areGames_200 (by decide) ?_
        refine ag_aload 6 dL_areGames_202 rfl ?_
        refine ag_bipush (48 : Int32) dL_areGames_204 (by decide) ?_
        refine ag_iload 11 dL_areGames_206 rfl ?_
        refine ag_iadd dL_areGames_208 ?_
        obtain ⟨hi12, hf⟩ := hf
        refine ar_iald 4 64 hD10 rfl (by decide) (xin_v hi12) dL_areGames_209 ?_
        refine ag_iconst (2 : Int32) dL_areGames_210 (by decide) ?_
        refine ag_irem dL_areGames_211 (by decide) ?_
        refine ag_imul dL_areGames_212 ?_
        refine ag_iadd dL_areGames_213 ?_
        refine ag_icmp_ne 383 dL_areGames_214 (by decide) (fun c13 => ?_) (fun c13 => ?_)
        · rw [if_neg c13] at hf
          refine ag_iconst (0 : Int32) dL_areGames_383 (by decide) ?_
          refine ag_lv [1, 2, 3, 4, 5, 6, 7, 8, 9, 11] rfl ?_
          exact wkL_areGames_384 (Y := 12 * n + 0) (Y2 := 72 * n + 0) hl hb hb0 _ hk162 ⟨by omega, by omega⟩ _ _ _ _ hD10 ⟨show kc + 0 + 1 + (0 + (12 * n + 0)) ≤ 236 by omega, show ks + 0 + 6 + (0 + (72 * n + 0)) ≤ 1416 by omega⟩ hf
        · rw [if_pos c13] at hf
          refine ag_qload_n 1 dL_areGames_217 rfl ?_
          refine ag_iload 11 dL_areGames_218 rfl ?_
          obtain ⟨hk_14, v16, h17, q15, hD18, hf⟩ := hf
          refine ag_callV 6 (some t) [.int a10] 1 rfl (LW_ob hk_14) rfl rfl (ctC hD10 (ctX8_handicap hl h9 _ _ q15)) ⟨wl3 (i := 210) rfl rfl, ciX8_handicap.1, ciX8_handicap.2.1, ciX8_handicap.2.2⟩ (wl3 (i := 211) rfl rfl) (wl3 (i := 212) rfl rfl) dL_areGames_220 rfl rfl (Nat.le_of_ble_eq_true rfl) ⟨Nat.le_of_ble_eq_true rfl, Nat.le_of_ble_eq_true rfl⟩ ⟨show kc + 0 + 1 + 1 ≤ 236 by omega, show ks + 0 + 6 + 6 ≤ 1416 by omega⟩ (fun _ => ?_)
          refine ag_aload 6 dL_areGames_223 rfl ?_
          refine ag_bipush (16 : Int32) dL_areGames_225 (by decide) ?_
          refine ag_iload 11 dL_areGames_227 rfl ?_
          refine ag_iadd dL_areGames_229 ?_
          obtain ⟨hi19, hf⟩ := hf
          refine ar_iald 4 64 hD18 rfl (by decide) (xin_v hi19) dL_areGames_230 ?_
          refine ag_icmp_ne 383 dL_areGames_231 (by decide) (fun c20 => ?_) (fun c20 => ?_)
          · rw [if_neg c20] at hf
            refine ag_iconst (0 : Int32) dL_areGames_383 (by decide) ?_
            refine ag_lv [1, 2, 3, 4, 5, 6, 7, 8, 9, 11] rfl ?_
            exact wkL_areGames_384 (Y := 12 * n + 0) (Y2 := 72 * n + 0) hl hb hb0 _ hk162 ⟨by omega, by omega⟩ _ _ _ _ hD18 ⟨show kc + 0 + 1 + 1 + (0 + (12 * n + 0)) ≤ 236 by omega, show ks + 0 + 6 + 6 + (0 + (72 * n + 0)) ≤ 1416 by omega⟩ hf
          · rw [if_pos c20] at hf
            refine ag_qload_n 1 dL_areGames_234 rfl ?_
            refine ag_iload 11 dL_areGames_235 rfl ?_
            obtain ⟨hk_21, v23, h24, q22, hD25, hf⟩ := hf
            refine ag_callV 6 (some t) [.int a10] 1 rfl (LW_ob hk_21) rfl rfl (ctC hD18 (ctX8_due hl h17 _ _ q22)) ⟨wl4 (i := 17) rfl rfl, ciX8_due.1, ciX8_due.2.1, ciX8_due.2.2⟩ (wl4 (i := 18) rfl rfl) (wl4 (i := 19) rfl rfl) dL_areGames_237 rfl rfl (Nat.le_of_ble_eq_true rfl) ⟨Nat.le_of_ble_eq_true rfl, Nat.le_of_ble_eq_true rfl⟩ ⟨show kc + 0 + 1 + 1 + 1 ≤ 236 by omega, show ks + 0 + 6 + 6 + 6 ≤ 1416 by omega⟩ (fun _ => ?_)
            refine ag_aload 5 dL_areGames_240 rfl ?_
            refine ag_aload 6 dL_areGames_242 rfl ?_
            refine ag_aload 8 dL_areGames_244 rfl ?_
            refine ag_aload 9 dL_areGames_246 rfl ?_
            refine ag_iload 11 dL_areGames_248 rfl ?_
            obtain ⟨q26, hq26, hf⟩ := hf
            refine ag_callS [.ref (lo + 3), .ref (lo + 4), .ref (lo + 6), .ref (lo + 7), .int a10] 5 (ctA hD25 (ctL_due hl _ _ hq26)) ⟨wl4 (i := 37) rfl rfl, ciL_due⟩ (wl4 (i := 38) rfl rfl) dL_areGames_250 rfl rfl (Nat.le_of_ble_eq_true rfl) ⟨Nat.le_of_ble_eq_true rfl, Nat.le_of_ble_eq_true rfl⟩ ⟨show kc + 0 + 1 + 1 + 1 + 0 + 0 ≤ 236 by omega, show ks + 0 + 6 + 6 + 6 + 0 + 0 ≤ 1416 by omega⟩ (fun _ => ?_)
            refine ag_icmp_ne 383 dL_areGames_253 (by decide) (fun c27 => ?_) (fun c27 => ?_)
            · rw [if_neg c27] at hf
              refine ag_iconst (0 : Int32) dL_areGames_383 (by decide) ?_
              refine ag_lv [1, 2, 3, 4, 5, 6, 7, 8, 9, 11] rfl ?_
              exact wkL_areGames_384 (Y := 12 * n + 0) (Y2 := 72 * n + 0) hl hb hb0 _ hk162 ⟨by omega, by omega⟩ _ _ _ _ hD25 ⟨show kc + 0 + 1 + 1 + 1 + 0 + (0 + (12 * n + 0)) ≤ 236 by omega, show ks + 0 + 6 + 6 + 6 + 0 + (0 + (72 * n + 0)) ≤ 1416 by omega⟩ hf
            · rw [if_pos c27] at hf
              refine ag_qload_n 1 dL_areGames_256 rfl ?_
              refine ag_iload 11 dL_areGames_257 rfl ?_
              refine ag_iconst (0 : Int32) dL_areGames_259 (by decide) ?_
              obtain ⟨hk_28, v30, h31, q29, hD32, hf⟩ := hf
              refine ag_callV 6 (some t) [.int a10, .int (0 : Int32)] 2 rfl (LW_ob hk_28) rfl rfl (ctC hD25 (ctX8_clock hl h24 _ _ _ q29)) ⟨wl3 (i := 222) rfl rfl, ciX8_clock.1, ciX8_clock.2.1, ciX8_clock.2.2⟩ (wl3 (i := 223) rfl rfl) (wl3 (i := 224) rfl rfl) dL_areGames_260 rfl rfl (Nat.le_of_ble_eq_true rfl) ⟨Nat.le_of_ble_eq_true rfl, Nat.le_of_ble_eq_true rfl⟩ ⟨show kc + 0 + 1 + 1 + 1 + 0 + 2 ≤ 236 by omega, show ks + 0 + 6 + 6 + 6 + 0 + 12 ≤ 1416 by omega⟩ (fun _ => ?_)
              refine ag_bipush (10 : Int32) dL_areGames_263 (by decide) ?_
              refine ag_aload 7 dL_areGames_265 rfl ?_
              refine ag_iload 11 dL_areGames_267 rfl ?_
              obtain ⟨hi33, hf⟩ := hf
              refine ar_iald 5 64 hD32 rfl (by decide) (xin_v hi33) dL_areGames_269 ?_
              refine ag_imul dL_areGames_270 ?_
              refine ag_aload 7 dL_areGames_271 rfl ?_
              refine ag_bipush (32 : Int32) dL_areGames_273 (by decide) ?_
              refine ag_iload 11 dL_areGames_275 rfl ?_
              refine ag_iadd dL_areGames_277 ?_
              refine ar_iald 5 64 hD32 rfl (by decide) (xin_v hi11) dL_areGames_278 ?_
              refine ag_bipush (10 : Int32) dL_areGames_279 (by decide) ?_
              refine ag_idiv dL_areGames_281 (by decide) ?_
              refine ag_iadd dL_areGames_282 ?_
              refine ag_icmp_ne 383 dL_areGames_283 (by decide) (fun c34 => ?_) (fun c34 => ?_)
              · rw [if_neg c34] at hf
                refine ag_iconst (0 : Int32) dL_areGames_383 (by decide) ?_
                refine ag_lv [1, 2, 3, 4, 5, 6, 7, 8, 9, 11] rfl ?_
                exact wkL_areGames_384 (Y := 12 * n + 0) (Y2 := 72 * n + 0) hl hb hb0 _ hk162 ⟨by omega, by omega⟩ _ _ _ _ hD32 ⟨show kc + 0 + 1 + 1 + 1 + 0 + 2 + (0 + (12 * n + 0)) ≤ 236 by omega, show ks + 0 + 6 + 6 + 6 + 0 + 12 + (0 + (72 * n + 0)) ≤ 1416 by omega⟩ hf
              · rw [if_pos c34] at hf
                refine ag_qload_n 1 dL_areGames_286 rfl ?_
                refine ag_iload 11 dL_areGames_287 rfl ?_
                refine ag_iconst (1 : Int32) dL_areGames_289 (by decide) ?_
                obtain ⟨hk_35, v37, h38, q36, hD39, hf⟩ := hf
                refine ag_callV 6 (some t) [.int a10, .int (1 : Int32)] 2 rfl (LW_ob hk_35) rfl rfl (ctC hD32 (ctX8_clock hl h31 _ _ _ q36)) ⟨wl3 (i := 222) rfl rfl, ciX8_clock.1, ciX8_clock.2.1, ciX8_clock.2.2⟩ (wl3 (i := 223) rfl rfl) (wl3 (i := 224) rfl rfl) dL_areGames_290 rfl rfl (Nat.le_of_ble_eq_true rfl) ⟨Nat.le_of_ble_eq_true rfl, Nat.le_of_ble_eq_true rfl⟩ ⟨show kc + 0 + 1 + 1 + 1 + 0 + 2 + 2 ≤ 236 by omega, show ks + 0 + 6 + 6 + 6 + 0 + 12 + 12 ≤ 1416 by omega⟩ (fun _ => ?_)
                refine ag_bipush (10 : Int32) dL_areGames_293 (by decide) ?_
                refine ag_aload 7 dL_areGames_295 rfl ?_
                refine ag_bipush (16 : Int32) dL_areGames_297 (by decide) ?_
                refine ag_iload 11 dL_areGames_299 rfl ?_
                refine ag_iadd dL_areGames_301 ?_
                refine ar_iald 5 64 hD39 rfl (by decide) (xin_v hi19) dL_areGames_302 ?_
                refine ag_imul dL_areGames_303 ?_
                refine ag_aload 7 dL_areGames_304 rfl ?_
                refine ag_bipush (32 : Int32) dL_areGames_306 (by decide) ?_
                refine ag_iload 11 dL_areGames_308 rfl ?_
                refine ag_iadd dL_areGames_310 ?_
                refine ar_iald 5 64 hD39 rfl (by decide) (xin_v hi11) dL_areGames_311 ?_
                refine ag_bipush (10 : Int32) dL_areGames_312 (by decide) ?_
                refine ag_irem dL_areGames_314 (by decide) ?_
                refine ag_iadd dL_areGames_315 ?_
                refine ag_icmp_ne 383 dL_areGames_316 (by decide) (fun c40 => ?_) (fun c40 => ?_)
                · rw [if_neg c40] at hf
                  refine ag_iconst (0 : Int32) dL_areGames_383 (by decide) ?_
                  refine ag_lv [1, 2, 3, 4, 5, 6, 7, 8, 9, 11] rfl ?_
                  exact wkL_areGames_384 (Y := 12 * n + 0) (Y2 := 72 * n + 0) hl hb hb0 _ hk162 ⟨by omega, by omega⟩ _ _ _ _ hD39 ⟨show kc + 0 + 1 + 1 + 1 + 0 + 2 + 2 + (0 + (12 * n + 0)) ≤ 236 by omega, show ks + 0 + 6 + 6 + 6 + 0 + 12 + 12 + (0 + (72 * n + 0)) ≤ 1416 by omega⟩ hf
                · rw [if_pos c40] at hf
                  refine ag_qload_n 1 dL_areGames_319 rfl ?_
                  refine ag_iload 11 dL_areGames_320 rfl ?_
                  obtain ⟨hk_41, v43, h44, q42, hD45, hf⟩ := hf
                  refine ag_callV 6 (some t) [.int a10] 1 rfl (LW_ob hk_41) rfl rfl (ctC hD39 (ctX8_score hl h38 _ _ q42)) ⟨wl3 (i := 232) rfl rfl, ciX8_score.1, ciX8_score.2.1, ciX8_score.2.2⟩ (wl3 (i := 233) rfl rfl) (wl3 (i := 234) rfl rfl) dL_areGames_322 rfl rfl (Nat.le_of_ble_eq_true rfl) ⟨Nat.le_of_ble_eq_true rfl, Nat.le_of_ble_eq_true rfl⟩ ⟨show kc + 0 + 1 + 1 + 1 + 0 + 2 + 2 + 1 ≤ 236 by omega, show ks + 0 + 6 + 6 + 6 + 0 + 12 + 12 + 6 ≤ 1416 by omega⟩ (fun _ => ?_)
                  refine ag_aload_n 2 dL_areGames_325 rfl ?_
                  refine ag_iload 0 dL_areGames_326 rfl ?_
                  obtain ⟨hi46, hf⟩ := hf
                  refine ar_lald 0 64 hD45 rfl (by decide) (xin_v hi46) dL_areGames_328 ?_
                  refine ag_aload_n 3 dL_areGames_329 rfl ?_
                  refine ag_iload 0 dL_areGames_330 rfl ?_
                  refine ar_lald 1 64 hD45 rfl (by decide) (xin_v hi46) dL_areGames_332 ?_
                  refine ag_aload 6 dL_areGames_333 rfl ?_
                  refine ag_bipush (16 : Int32) dL_areGames_335 (by decide) ?_
                  refine ag_iload 11 dL_areGames_337 rfl ?_
                  refine ag_iadd dL_areGames_339 ?_
                  refine ar_iald 4 64 hD45 rfl (by decide) (xin_v hi19) dL_areGames_340 ?_
                  refine ag_bipush (10 : Int32) dL_areGames_341 (by decide) ?_
                  refine ag_irem dL_areGames_343 (by decide) ?_
                  obtain ⟨q47, hq47, hf⟩ := hf
                  refine ag_callS [.long (m_J q26.2 0 q5.toNatClampNeg), .long (m_J q26.2 1 q5.toNatClampNeg), .int ((m_I q26.2 4 ((16 : Int32) + a10).toNatClampNeg) - (m_I q26.2 4 ((16 : Int32) + a10).toNatClampNeg) / (10 : Int32) * (10 : Int32))] 3 (ctA hD45 (ctL_score (L := q26.2) hl _ _ _ hq47)) ⟨wl4 (i := 49) rfl rfl, ciL_score⟩ (wl4 (i := 50) rfl rfl) dL_areGames_344 rfl rfl (Nat.le_of_ble_eq_true rfl) ⟨Nat.le_of_ble_eq_true rfl, Nat.le_of_ble_eq_true rfl⟩ ⟨show kc + 0 + 1 + 1 + 1 + 0 + 2 + 2 + 1 + 0 + 0 ≤ 236 by omega, show ks + 0 + 6 + 6 + 6 + 0 + 12 + 12 + 6 + 0 + 0 ≤ 1416 by omega⟩ (fun _ => ?_)
                  refine ag_icmp_ne 383 dL_areGames_347 (by decide) (fun c48 => ?_) (fun c48 => ?_)
                  · rw [if_neg c48] at hf
                    refine ag_iconst (0 : Int32) dL_areGames_383 (by decide) ?_
                    refine ag_lv [1, 2, 3, 4, 5, 6, 7, 8, 9, 11] rfl ?_
                    exact wkL_areGames_384 (Y := 12 * n + 0) (Y2 := 72 * n + 0) hl hb hb0 _ hk162 ⟨by omega, by omega⟩ _ _ _ _ hD45 ⟨show kc + 0 + 1 + 1 + 1 + 0 + 2 + 2 + 1 + 0 + (0 + (12 * n + 0)) ≤ 236 by omega, show ks + 0 + 6 + 6 + 6 + 0 + 12 + 12 + 6 + 0 + (0 + (72 * n + 0)) ≤ 1416 by omega⟩ hf
                  · rw [if_pos c48] at hf
                    refine ag_qload_n 1 dL_areGames_350 rfl ?_
                    refine ag_iconst (4 : Int32) dL_areGames_351 (by decide) ?_
                    refine ag_iload 11 dL_areGames_352 rfl ?_
                    refine ag_iconst (2 : Int32) dL_areGames_354 (by decide) ?_
                    refine ag_callRH (fun s a c h => h.1) [va_rf (some t), .int (4 : Int32), .int a10, .int (2 : Int32)] 4 (ctL_asks hl _ _ _ _ _ hD45 hf) ⟨wl3 (i := 198) rfl rfl, ciL_asks⟩ (wl3 (i := 199) rfl rfl) dL_areGames_355 rfl rfl (Nat.le_of_ble_eq_true rfl) ⟨Nat.le_of_ble_eq_true rfl, Nat.le_of_ble_eq_true rfl⟩ ⟨show kc + 0 + 1 + 1 + 1 + 0 + 2 + 2 + 1 + 0 + 2 ≤ 236 by omega, show ks + 0 + 6 + 6 + 6 + 0 + 12 + 12 + 6 + 0 + 12 ≤ 1416 by omega⟩ (fun v50 h51 L52 hf hD53 => ?_)
                    refine ag_sipush (-3000 : Int32) dL_areGames_358 (by decide) ?_
                    refine ag_icmp_ne 383 dL_areGames_361 (by decide) (fun c54 => ?_) (fun c54 => ?_)
                    · rw [if_neg c54] at hf
                      refine ag_iconst (0 : Int32) dL_areGames_383 (by decide) ?_
                      refine ag_lv [1, 2, 3, 4, 5, 6, 7, 8, 9, 11] rfl ?_
                      exact wkL_areGames_384 (Y := 12 * n + 0) (Y2 := 72 * n + 0) hl hb hb0 _ hk162 ⟨by omega, by omega⟩ _ _ _ _ hD53 ⟨show kc + 0 + 1 + 1 + 1 + 0 + 2 + 2 + 1 + 0 + 2 + (0 + (12 * n + 0)) ≤ 236 by omega, show ks + 0 + 6 + 6 + 6 + 0 + 12 + 12 + 6 + 0 + 12 + (0 + (72 * n + 0)) ≤ 1416 by omega⟩ hf
                    · rw [if_pos c54] at hf
                      refine ag_qload_n 1 dL_areGames_364 rfl ?_
                      refine ag_iconst (3 : Int32) dL_areGames_365 (by decide) ?_
                      refine ag_iload 11 dL_areGames_366 rfl ?_
                      refine ag_bipush (49 : Int32) dL_areGames_368 (by decide) ?_
                      refine ag_callRH (fun s a c h => h.1) [va_rf (some t), .int (3 : Int32), .int a10, .int (49 : Int32)] 4 (ctL_asks hl _ _ _ _ _ hD53 hf) ⟨wl3 (i := 198) rfl rfl, ciL_asks⟩ (wl3 (i := 199) rfl rfl) dL_areGames_370 rfl rfl (Nat.le_of_ble_eq_true rfl) ⟨Nat.le_of_ble_eq_true rfl, Nat.le_of_ble_eq_true rfl⟩ ⟨show kc + 0 + 1 + 1 + 1 + 0 + 2 + 2 + 1 + 0 + 2 + 2 ≤ 236 by omega, show ks + 0 + 6 + 6 + 6 + 0 + 12 + 12 + 6 + 0 + 12 + 12 ≤ 1416 by omega⟩ (fun v56 h57 L58 hf hD59 => ?_)
                      refine ag_sipush (-3000 : Int32) dL_areGames_373 (by decide) ?_
                      refine ag_icmp_ne 383 dL_areGames_376 (by decide) (fun c60 => ?_) (fun c60 => ?_)
                      · rw [if_neg c60] at hf
                        refine ag_iconst (0 : Int32) dL_areGames_383 (by decide) ?_
                        refine ag_lv [1, 2, 3, 4, 5, 6, 7, 8, 9, 11] rfl ?_
                        exact wkL_areGames_384 (Y := 12 * n + 0) (Y2 := 72 * n + 0) hl hb hb0 _ hk162 ⟨by omega, by omega⟩ _ _ _ _ hD59 ⟨show kc + 0 + 1 + 1 + 1 + 0 + 2 + 2 + 1 + 0 + 2 + 2 + (0 + (12 * n + 0)) ≤ 236 by omega, show ks + 0 + 6 + 6 + 6 + 0 + 12 + 12 + 6 + 0 + 12 + 12 + (0 + (72 * n + 0)) ≤ 1416 by omega⟩ hf
                      · rw [if_pos c60] at hf
                        refine ag_iconst (1 : Int32) dL_areGames_379 (by decide) ?_
                        refine ag_goto 384 dL_areGames_380 (by decide) ?_
                        refine ag_lv [1, 2, 3, 4, 5, 6, 7, 8, 9, 11] rfl ?_
                        exact wkL_areGames_384 (Y := 12 * n + 0) (Y2 := 72 * n + 0) hl hb hb0 _ hk162 ⟨by omega, by omega⟩ _ _ _ _ hD59 ⟨show kc + 0 + 1 + 1 + 1 + 0 + 2 + 2 + 1 + 0 + 2 + 2 + (0 + (12 * n + 0)) ≤ 236 by omega, show ks + 0 + 6 + 6 + 6 + 0 + 12 + 12 + 6 + 0 + 12 + 12 + (0 + (72 * n + 0)) ≤ 1416 by omega⟩ hf
def gL_areGames_159 (lo t Ls : Nat) (xs : Nat → Int32) (K : Int32 → TH → MS → Prop) (h : TH) (L : MS) (a9 : Int32) : Prop :=
  gL_areGames_162 lo t Ls xs K 18 h L a9 (0 : Int32)
set_option maxHeartbeats 4000000 in
set_option maxRecDepth 100000 in
theorem wkL_areGames_159 {l : Launch} {g : xG} {x0 : xV} {b lo t Ls : Nat} {xs : Nat → Int32} {K : Int32 → TH → MS → Prop} {kc ks : Nat} (hl : l.stackTraces = false) (hb : b + 8 < lo) (hb0 : b < x0.1 ∧ x0.2 b = none) (h : TH) (L : MS) (a9 : Int32) (hD : LDp lo h) (hc : kc + (216) ≤ 236 ∧ ks + (1296) ≤ 1416) (hf : gL_areGames_159 lo t Ls xs K h L a9) : AWG (XS b Ls xs) (zR rmL_areGames g lo x0 K) ML_areGames rmL_areGames l g x0 kc ks (LW g lo h L) 159 [(0, va_rf (some t)), (1, .ref (lo + 0)), (2, .ref (lo + 1)), (3, .ref (lo + 2)), (4, .ref (lo + 3)), (5, .ref (lo + 4)), (6, .ref (lo + 5)), (7, .ref (lo + 6)), (8, .ref (lo + 7)), (9, .int a9)] [] := by
  rw [gL_areGames_159] at hf
  refine ag_iconst (0 : Int32) dL_areGames_159 (by decide) ?_
  refine ag_istore [(10, .int (0 : Int32)), (0, va_rf (some t)), (1, .ref (lo + 0)), (2, .ref (lo + 1)), (3, .ref (lo + 2)), (4, .ref (lo + 3)), (5, .ref (lo + 4)), (6, .ref (lo + 5)), (7, .ref (lo + 6)), (8, .ref (lo + 7)), (9, .int a9)] dL_areGames_160 (by decide) rfl ?_
  refine ag_lv [1, 2, 3, 4, 5, 6, 7, 8, 9, 10, 0] rfl ?_
  exact wkL_areGames_162 hl hb hb0 18 _ _ _ _ _ _ hD ⟨show kc + (12 * 18 + 0) ≤ 236 by omega, show ks + (72 * 18 + 0) ≤ 1416 by omega⟩ hf
def gL_areGames_151 (lo t Ls : Nat) (xs : Nat → Int32) (K : Int32 → TH → MS → Prop) (k85 : TH → MS → Int32 → Int32 → Prop) (h : TH) (L : MS) (a10 : Int32) (s0 : Int32) : Prop :=
  k85 h L s0 (a10 + (1 : Int32))
set_option maxHeartbeats 4000000 in
set_option maxRecDepth 100000 in
theorem wkL_areGames_151 {l : Launch} {g : xG} {x0 : xV} {b lo t Ls : Nat} {xs : Nat → Int32} {K : Int32 → TH → MS → Prop} {kc ks : Nat} {Y Y2 : Nat} (hl : l.stackTraces = false) (hb : b + 8 < lo) (hb0 : b < x0.1 ∧ x0.2 b = none) (k85 : TH → MS → Int32 → Int32 → Prop) (hk85 : ∀ (kc ks : Nat) (h : TH) (L : MS) (a9 : Int32) (a10 : Int32), LDp lo h → (kc + Y ≤ 236 ∧ ks + Y2 ≤ 1416) → k85 h L a9 a10 → AWG (XS b Ls xs) (zR rmL_areGames g lo x0 K) ML_areGames rmL_areGames l g x0 kc ks (LW g lo h L) 85 [(0, va_rf (some t)), (1, .ref (lo + 0)), (2, .ref (lo + 1)), (3, .ref (lo + 2)), (4, .ref (lo + 3)), (5, .ref (lo + 4)), (6, .ref (lo + 5)), (7, .ref (lo + 6)), (8, .ref (lo + 7)), (9, .int a9), (10, .int a10)] []) (hY : 216 ≤ Y ∧ 1296 ≤ Y2) (h : TH) (L : MS) (a10 : Int32) (s0 : Int32) (hD : LDp lo h) (hc : kc + (0 + Y) ≤ 236 ∧ ks + (0 + Y2) ≤ 1416) (hf : gL_areGames_151 lo t Ls xs K k85 h L a10 s0) : AWG (XS b Ls xs) (zR rmL_areGames g lo x0 K) ML_areGames rmL_areGames l g x0 kc ks (LW g lo h L) 151 [(0, va_rf (some t)), (1, .ref (lo + 0)), (2, .ref (lo + 1)), (3, .ref (lo + 2)), (4, .ref (lo + 3)), (5, .ref (lo + 4)), (6, .ref (lo + 5)), (7, .ref (lo + 6)), (8, .ref (lo + 7)), (10, .int a10)] [.int s0] := by
  rw [gL_areGames_151] at hf
  refine ag_istore [(9, .int s0), (0, va_rf (some t)), (1, .ref (lo + 0)), (2, .ref (lo + 1)), (3, .ref (lo + 2)), (4, .ref (lo + 3)), (5, .ref (lo + 4)), (6, .ref (lo + 5)), (7, .ref (lo + 6)), (8, .ref (lo + 7)), (10, .int a10)] dL_areGames_151 (by decide) rfl ?_
  refine ag_iinc [(10, .int (a10 + (1 : Int32))), (9, .int s0), (0, va_rf (some t)), (1, .ref (lo + 0)), (2, .ref (lo + 1)), (3, .ref (lo + 2)), (4, .ref (lo + 3)), (5, .ref (lo + 4)), (6, .ref (lo + 5)), (7, .ref (lo + 6)), (8, .ref (lo + 7))] 10 dL_areGames_153 rfl rfl (by decide) rfl ?_
  refine ag_goto 85 dL_areGames_156 (by decide) ?_
  refine ag_lv [2, 3, 4, 5, 6, 7, 8, 9, 10, 1, 0] rfl ?_
  exact hk85 _ _ _ _ _ _ hD ⟨show kc + Y ≤ 236 by omega, show ks + Y2 ≤ 1416 by omega⟩ hf
def gL_areGames_142 (lo t Ls : Nat) (xs : Nat → Int32) (K : Int32 → TH → MS → Prop) (k85 : TH → MS → Int32 → Int32 → Prop) (h : TH) (L : MS) (a10 : Int32) (s0 : Int32) (s1 : Int32) (s2 : Int32) : Prop :=
  (if s0 = (s1 + s2) then gL_areGames_151 lo t Ls xs K k85 h L a10 (1 : Int32) else gL_areGames_151 lo t Ls xs K k85 h L a10 (0 : Int32))
set_option maxHeartbeats 4000000 in
set_option maxRecDepth 100000 in
theorem wkL_areGames_142 {l : Launch} {g : xG} {x0 : xV} {b lo t Ls : Nat} {xs : Nat → Int32} {K : Int32 → TH → MS → Prop} {kc ks : Nat} {Y Y2 : Nat} (hl : l.stackTraces = false) (hb : b + 8 < lo) (hb0 : b < x0.1 ∧ x0.2 b = none) (k85 : TH → MS → Int32 → Int32 → Prop) (hk85 : ∀ (kc ks : Nat) (h : TH) (L : MS) (a9 : Int32) (a10 : Int32), LDp lo h → (kc + Y ≤ 236 ∧ ks + Y2 ≤ 1416) → k85 h L a9 a10 → AWG (XS b Ls xs) (zR rmL_areGames g lo x0 K) ML_areGames rmL_areGames l g x0 kc ks (LW g lo h L) 85 [(0, va_rf (some t)), (1, .ref (lo + 0)), (2, .ref (lo + 1)), (3, .ref (lo + 2)), (4, .ref (lo + 3)), (5, .ref (lo + 4)), (6, .ref (lo + 5)), (7, .ref (lo + 6)), (8, .ref (lo + 7)), (9, .int a9), (10, .int a10)] []) (hY : 216 ≤ Y ∧ 1296 ≤ Y2) (h : TH) (L : MS) (a10 : Int32) (s0 : Int32) (s1 : Int32) (s2 : Int32) (hD : LDp lo h) (hc : kc + (0 + Y) ≤ 236 ∧ ks + (0 + Y2) ≤ 1416) (hf : gL_areGames_142 lo t Ls xs K k85 h L a10 s0 s1 s2) : AWG (XS b Ls xs) (zR rmL_areGames g lo x0 K) ML_areGames rmL_areGames l g x0 kc ks (LW g lo h L) 142 [(0, va_rf (some t)), (1, .ref (lo + 0)), (2, .ref (lo + 1)), (3, .ref (lo + 2)), (4, .ref (lo + 3)), (5, .ref (lo + 4)), (6, .ref (lo + 5)), (7, .ref (lo + 6)), (8, .ref (lo + 7)), (10, .int a10)] [.int s2, .int s1, .int s0] := by
  rw [gL_areGames_142] at hf
  refine ag_iadd dL_areGames_142 ?_
  refine ag_icmp_ne 150 dL_areGames_143 (by decide) (fun c1 => ?_) (fun c1 => ?_)
  · rw [if_neg c1] at hf
    refine ag_iconst (0 : Int32) dL_areGames_150 (by decide) ?_
    refine ag_lv [0, 1, 2, 3, 4, 5, 6, 7, 8, 9] rfl ?_
    exact wkL_areGames_151 (Y := Y) (Y2 := Y2) hl hb hb0 _ hk85 hY _ _ _ _ hD ⟨show kc + (0 + Y) ≤ 236 by omega, show ks + (0 + Y2) ≤ 1416 by omega⟩ hf
  · rw [if_pos c1] at hf
    refine ag_iconst (1 : Int32) dL_areGames_146 (by decide) ?_
    refine ag_goto 151 dL_areGames_147 (by decide) ?_
    refine ag_lv [0, 1, 2, 3, 4, 5, 6, 7, 8, 9] rfl ?_
    exact wkL_areGames_151 (Y := Y) (Y2 := Y2) hl hb hb0 _ hk85 hY _ _ _ _ hD ⟨show kc + (0 + Y) ≤ 236 by omega, show ks + (0 + Y2) ≤ 1416 by omega⟩ hf
def gL_areGames_85 (lo t Ls : Nat) (xs : Nat → Int32) (K : Int32 → TH → MS → Prop) : Nat → TH → MS → Int32 → Int32 → Prop
  | 0, _, _, _, _ => False
  | n + 1, h, L, a9, a10 =>
    (if (m_I L 7 (0 : Int32).toNatClampNeg) ≤ a10 then gL_areGames_159 lo t Ls xs K h L a9 else (if a9 = 0 then gL_areGames_159 lo t Ls xs K h L a9 else (xin (((3 : Int32) * a10) + (2 : Int32)) 24 = true ∧ (t_kd h t = 7 ∧ ∃ v6 h7, fX8_rank h t a10 = some (.inl (v6, h7)) ∧ LDp lo h7 ∧ (xin (((3 : Int32) * a10) + (1 : Int32)) 24 = true ∧ (if 0 ≤ (m_I L 3 (((3 : Int32) * a10) + (2 : Int32)).toNatClampNeg) then gL_areGames_142 lo t Ls xs K (gL_areGames_85 lo t Ls xs K n) h7 L a10 v6 ((10 : Int32) * (m_I L 3 (((3 : Int32) * a10) + (1 : Int32)).toNatClampNeg)) (m_I L 3 (((3 : Int32) * a10) + (2 : Int32)).toNatClampNeg) else gL_areGames_142 lo t Ls xs K (gL_areGames_85 lo t Ls xs K n) h7 L a10 v6 ((10 : Int32) * (m_I L 3 (((3 : Int32) * a10) + (1 : Int32)).toNatClampNeg)) ((5 : Int32) - (m_I L 3 (((3 : Int32) * a10) + (2 : Int32)).toNatClampNeg))))))))
set_option maxHeartbeats 4000000 in
set_option maxRecDepth 100000 in
theorem wkL_areGames_85 {l : Launch} {g : xG} {x0 : xV} {b lo t Ls : Nat} {xs : Nat → Int32} {K : Int32 → TH → MS → Prop} (hl : l.stackTraces = false) (hb : b + 8 < lo) (hb0 : b < x0.1 ∧ x0.2 b = none) : ∀ (n kc ks : Nat) (h : TH) (L : MS) (a9 : Int32) (a10 : Int32), LDp lo h → (kc + (1 * n + 216) ≤ 236 ∧ ks + (6 * n + 1296) ≤ 1416) → gL_areGames_85 lo t Ls xs K n h L a9 a10 → AWG (XS b Ls xs) (zR rmL_areGames g lo x0 K) ML_areGames rmL_areGames l g x0 kc ks (LW g lo h L) 85 [(0, va_rf (some t)), (1, .ref (lo + 0)), (2, .ref (lo + 1)), (3, .ref (lo + 2)), (4, .ref (lo + 3)), (5, .ref (lo + 4)), (6, .ref (lo + 5)), (7, .ref (lo + 6)), (8, .ref (lo + 7)), (9, .int a9), (10, .int a10)] [] := by
  intro n
  induction n with
  | zero => intro kc ks h L a9 a10 hD hc hf; exact absurd hf (by simp [gL_areGames_85])
  | succ n hk85 =>
    intro kc ks h L a9 a10 hD hc hf
    rw [gL_areGames_85] at hf
    refine ag_iload 10 dL_areGames_85 rfl ?_
    refine ag_aload 8 dL_areGames_87 rfl ?_
    refine ag_iconst (0 : Int32) dL_areGames_89 (by decide) ?_
    refine ar_iald 7 5 hD rfl (by decide) (xin_v (by decide)) dL_areGames_90 ?_
    refine ag_icmp_ge 159 dL_areGames_91 (by decide) (fun c1 => ?_) (fun c1 => ?_)
    · rw [if_pos c1] at hf
      refine ag_lv [0, 1, 2, 3, 4, 5, 6, 7, 8, 9] rfl ?_
      exact wkL_areGames_159 hl hb hb0 _ _ _ hD ⟨show kc + (216) ≤ 236 by omega, show ks + (1296) ≤ 1416 by omega⟩ hf
    · rw [if_neg c1] at hf
      refine ag_iload 9 dL_areGames_94 rfl ?_
      refine ag_if_eq 159 dL_areGames_96 (by decide) (fun c2 => ?_) (fun c2 => ?_)
      · rw [if_pos c2] at hf
        refine ag_lv [0, 1, 2, 3, 4, 5, 6, 7, 8, 9] rfl ?_
        exact wkL_areGames_159 hl hb hb0 _ _ _ hD ⟨show kc + (216) ≤ 236 by omega, show ks + (1296) ≤ 1416 by omega⟩ hf
      · rw [if_neg c2] at hf
        refine ag_aload 4 dL_areGames_99 rfl ?_
        refine ag_iconst (3 : Int32) dL_areGames_101 (by decide) ?_
        refine ag_iload 10 dL_areGames_102 rfl ?_
        refine ag_imul dL_areGames_104 ?_
        refine ag_iconst (2 : Int32) dL_areGames_105 (by decide) ?_
        refine ag_iadd dL_areGames_106 ?_
        obtain ⟨hi3, hf⟩ := hf
        refine ar_iald 3 24 hD rfl (by decide) (xin_v hi3) dL_areGames_107 ?_
        refine ag_istore [(11, .int (m_I L 3 (((3 : Int32) * a10) + (2 : Int32)).toNatClampNeg)), (0, va_rf (some t)), (1, .ref (lo + 0)), (2, .ref (lo + 1)), (3, .ref (lo + 2)), (4, .ref (lo + 3)), (5, .ref (lo + 4)), (6, .ref (lo + 5)), (7, .ref (lo + 6)), (8, .ref (lo + 7)), (9, .int a9), (10, .int a10)] dL_areGames_108 (by decide) rfl ?_
        refine ag_qload_n 1 dL_areGames_110 rfl ?_
        refine ag_iload 11 dL_areGames_111 rfl ?_
        obtain ⟨hk_4, v6, h7, q5, hD8, hf⟩ := hf
        refine ag_callV 6 (some t) [.int a10] 1 rfl (LW_ob hk_4) rfl rfl (ctC hD (ctX8_rank hl h _ _ q5)) ⟨wl3 (i := 201) rfl rfl, ciX8_rank.1, ciX8_rank.2.1, ciX8_rank.2.2⟩ (wl3 (i := 202) rfl rfl) (wl3 (i := 203) rfl rfl) dL_areGames_113 rfl rfl (Nat.le_of_ble_eq_true rfl) ⟨Nat.le_of_ble_eq_true rfl, Nat.le_of_ble_eq_true rfl⟩ ⟨show kc + 1 ≤ 236 by omega, show ks + 6 ≤ 1416 by omega⟩ (fun _ => ?_)
        refine ag_bipush (10 : Int32) dL_areGames_116 (by decide) ?_
        refine ag_aload 5 dL_areGames_118 rfl ?_
        refine ag_iconst (3 : Int32) dL_areGames_120 (by decide) ?_
        refine ag_iload 11 dL_areGames_121 rfl ?_
        refine ag_imul dL_areGames_123 ?_
        refine ag_iconst (1 : Int32) dL_areGames_124 (by decide) ?_
        refine ag_iadd dL_areGames_125 ?_
        obtain ⟨hi9, hf⟩ := hf
        refine ar_iald 3 24 hD8 rfl (by decide) (xin_v hi9) dL_areGames_126 ?_
        refine ag_imul dL_areGames_127 ?_
        refine ag_iload 0 dL_areGames_128 rfl ?_
        refine ag_if_ge 140 dL_areGames_130 (by decide) (fun c10 => ?_) (fun c10 => ?_)
        · rw [if_pos c10] at hf
          refine ag_iload 0 dL_areGames_140 rfl ?_
          refine ag_lv [1, 2, 3, 4, 5, 6, 7, 8, 9, 11] rfl ?_
          exact wkL_areGames_142 (Y := 1 * n + 216) (Y2 := 6 * n + 1296) hl hb hb0 _ hk85 ⟨by omega, by omega⟩ _ _ _ _ _ _ hD8 ⟨show kc + 1 + (0 + (1 * n + 216)) ≤ 236 by omega, show ks + 6 + (0 + (6 * n + 1296)) ≤ 1416 by omega⟩ hf
        · rw [if_neg c10] at hf
          refine ag_iconst (5 : Int32) dL_areGames_133 (by decide) ?_
          refine ag_iload 0 dL_areGames_134 rfl ?_
          refine ag_isub dL_areGames_136 ?_
          refine ag_goto 142 dL_areGames_137 (by decide) ?_
          refine ag_lv [1, 2, 3, 4, 5, 6, 7, 8, 9, 11] rfl ?_
          exact wkL_areGames_142 (Y := 1 * n + 216) (Y2 := 6 * n + 1296) hl hb hb0 _ hk85 ⟨by omega, by omega⟩ _ _ _ _ _ _ hD8 ⟨show kc + 1 + (0 + (1 * n + 216)) ≤ 236 by omega, show ks + 6 + (0 + (6 * n + 1296)) ≤ 1416 by omega⟩ hf
def gL_areGames_80 (lo t Ls : Nat) (xs : Nat → Int32) (K : Int32 → TH → MS → Prop) (h : TH) (L : MS) (s0 : Int32) : Prop :=
  gL_areGames_85 lo t Ls xs K 10 h L s0 (0 : Int32)
set_option maxHeartbeats 4000000 in
set_option maxRecDepth 100000 in
theorem wkL_areGames_80 {l : Launch} {g : xG} {x0 : xV} {b lo t Ls : Nat} {xs : Nat → Int32} {K : Int32 → TH → MS → Prop} {kc ks : Nat} (hl : l.stackTraces = false) (hb : b + 8 < lo) (hb0 : b < x0.1 ∧ x0.2 b = none) (h : TH) (L : MS) (s0 : Int32) (hD : LDp lo h) (hc : kc + (226) ≤ 236 ∧ ks + (1356) ≤ 1416) (hf : gL_areGames_80 lo t Ls xs K h L s0) : AWG (XS b Ls xs) (zR rmL_areGames g lo x0 K) ML_areGames rmL_areGames l g x0 kc ks (LW g lo h L) 80 [(0, va_rf (some t)), (1, .ref (lo + 0)), (2, .ref (lo + 1)), (3, .ref (lo + 2)), (4, .ref (lo + 3)), (5, .ref (lo + 4)), (6, .ref (lo + 5)), (7, .ref (lo + 6)), (8, .ref (lo + 7))] [.int s0] := by
  rw [gL_areGames_80] at hf
  refine ag_istore [(9, .int s0), (0, va_rf (some t)), (1, .ref (lo + 0)), (2, .ref (lo + 1)), (3, .ref (lo + 2)), (4, .ref (lo + 3)), (5, .ref (lo + 4)), (6, .ref (lo + 5)), (7, .ref (lo + 6)), (8, .ref (lo + 7))] dL_areGames_80 (by decide) rfl ?_
  refine ag_iconst (0 : Int32) dL_areGames_82 (by decide) ?_
  refine ag_istore [(10, .int (0 : Int32)), (9, .int s0), (0, va_rf (some t)), (1, .ref (lo + 0)), (2, .ref (lo + 1)), (3, .ref (lo + 2)), (4, .ref (lo + 3)), (5, .ref (lo + 4)), (6, .ref (lo + 5)), (7, .ref (lo + 6)), (8, .ref (lo + 7))] dL_areGames_83 (by decide) rfl ?_
  refine ag_lv [2, 3, 4, 5, 6, 7, 8, 9, 10, 1, 0] rfl ?_
  exact wkL_areGames_85 hl hb hb0 10 _ _ _ _ _ _ hD ⟨show kc + (1 * 10 + 216) ≤ 236 by omega, show ks + (6 * 10 + 1296) ≤ 1416 by omega⟩ hf
def gL_areGames (lo t Ls : Nat) (xs : Nat → Int32) (K : Int32 → TH → MS → Prop) (h : TH) (L : MS) : Prop :=
  gL_asks lo t Ls xs (fun v2 h3 L4 => (if v2 = (-3000 : Int32) then gL_asks lo t Ls xs (fun v8 h9 L10 => (if v8 = (-3000 : Int32) then gL_asks lo t Ls xs (fun v14 h15 L16 => (if v14 = (-3000 : Int32) then gL_asks lo t Ls xs (fun v20 h21 L22 => (if v20 = (-3000 : Int32) then gL_asks lo t Ls xs (fun v26 h27 L28 => (if v26 = (-3000 : Int32) then gL_areGames_80 lo t Ls xs K h27 L28 (1 : Int32) else gL_areGames_80 lo t Ls xs K h27 L28 (0 : Int32))) h21 L22 (8 : Int32) (-1 : Int32) (0 : Int32) else gL_areGames_80 lo t Ls xs K h21 L22 (0 : Int32))) h15 L16 (5 : Int32) (m_I L16 7 (1 : Int32).toNatClampNeg) (0 : Int32) else gL_areGames_80 lo t Ls xs K h15 L16 (0 : Int32))) h9 L10 (2 : Int32) (-1 : Int32) (0 : Int32) else gL_areGames_80 lo t Ls xs K h9 L10 (0 : Int32))) h3 L4 (1 : Int32) (m_I L4 7 (1 : Int32).toNatClampNeg) (0 : Int32) else gL_areGames_80 lo t Ls xs K h3 L4 (0 : Int32))) h L (0 : Int32) (m_I L 7 (0 : Int32).toNatClampNeg) (0 : Int32)
set_option maxHeartbeats 4000000 in
set_option maxRecDepth 100000 in
theorem ctL_areGames {l : Launch} {g : xG} {b lo t Ls : Nat} {xs : Nat → Int32} {K : Int32 → TH → MS → Prop} (hl : l.stackTraces = false) (hb : b + 8 < lo) (h : TH) (L : MS) (hD : LDp lo h) (hf : gL_areGames lo t Ls xs K h L) : RT yL_areGames ML_areGames rmL_areGames l g lo b Ls xs [va_rf (some t), .ref (lo + 0), .ref (lo + 1), .ref (lo + 2), .ref (lo + 3), .ref (lo + 4), .ref (lo + 5), .ref (lo + 6), .ref (lo + 7)] (LW g lo h L) K := by
  rw [gL_areGames] at hf
  refine RT.of (lv0 := [(0, va_rf (some t)), (1, .ref (lo + 0)), (2, .ref (lo + 1)), (3, .ref (lo + 2)), (4, .ref (lo + 3)), (5, .ref (lo + 4)), (6, .ref (lo + 5)), (7, .ref (lo + 6)), (8, .ref (lo + 7))]) (by decide +kernel) rfl rfl (by simp [lg_sl, cat_q, cat_i, cat_l, cat_r]) (by simp [lv_args, cat_q, cat_i, cat_l, cat_r]) hl ?_
  have hb0 := LW_no (g := g) (L := L) hD hb
  have hc : 0 + 236 ≤ 236 ∧ 0 + 1416 ≤ 1416 := ⟨by omega, by omega⟩
  refine ag_qload_n 0 dL_areGames_0 rfl ?_
  refine ag_iconst (0 : Int32) dL_areGames_1 (by decide) ?_
  refine ag_aload 8 dL_areGames_2 rfl ?_
  refine ag_iconst (0 : Int32) dL_areGames_4 (by decide) ?_
  refine ar_iald 7 5 hD rfl (by decide) (xin_v (by decide)) dL_areGames_5 ?_
  refine ag_iconst (0 : Int32) dL_areGames_6 (by decide) ?_
  refine ag_callRH (fun s a c h => h.1) [va_rf (some t), .int (0 : Int32), .int (m_I L 7 (0 : Int32).toNatClampNeg), .int (0 : Int32)] 4 (ctL_asks hl _ _ _ _ _ hD hf) ⟨wl3 (i := 198) rfl rfl, ciL_asks⟩ (wl3 (i := 199) rfl rfl) dL_areGames_7 rfl rfl (Nat.le_of_ble_eq_true rfl) ⟨Nat.le_of_ble_eq_true rfl, Nat.le_of_ble_eq_true rfl⟩ ⟨show 0 + 2 ≤ 236 by omega, show 0 + 12 ≤ 1416 by omega⟩ (fun v2 h3 L4 hf hD5 => ?_)
  refine ag_sipush (-3000 : Int32) dL_areGames_10 (by decide) ?_
  refine ag_icmp_ne 79 dL_areGames_13 (by decide) (fun c6 => ?_) (fun c6 => ?_)
  · rw [if_neg c6] at hf
    refine ag_iconst (0 : Int32) dL_areGames_79 (by decide) ?_
    refine ag_lv [0, 1, 2, 3, 4, 5, 6, 7, 8] rfl ?_
    exact wkL_areGames_80 hl hb hb0 _ _ _ hD5 ⟨show 0 + 2 + (226) ≤ 236 by omega, show 0 + 12 + (1356) ≤ 1416 by omega⟩ hf
  · rw [if_pos c6] at hf
    refine ag_qload_n 0 dL_areGames_16 rfl ?_
    refine ag_iconst (1 : Int32) dL_areGames_17 (by decide) ?_
    refine ag_aload 8 dL_areGames_18 rfl ?_
    refine ag_iconst (1 : Int32) dL_areGames_20 (by decide) ?_
    refine ar_iald 7 5 hD5 rfl (by decide) (xin_v (by decide)) dL_areGames_21 ?_
    refine ag_iconst (0 : Int32) dL_areGames_22 (by decide) ?_
    refine ag_callRH (fun s a c h => h.1) [va_rf (some t), .int (1 : Int32), .int (m_I L4 7 (1 : Int32).toNatClampNeg), .int (0 : Int32)] 4 (ctL_asks hl _ _ _ _ _ hD5 hf) ⟨wl3 (i := 198) rfl rfl, ciL_asks⟩ (wl3 (i := 199) rfl rfl) dL_areGames_23 rfl rfl (Nat.le_of_ble_eq_true rfl) ⟨Nat.le_of_ble_eq_true rfl, Nat.le_of_ble_eq_true rfl⟩ ⟨show 0 + 2 + 2 ≤ 236 by omega, show 0 + 12 + 12 ≤ 1416 by omega⟩ (fun v8 h9 L10 hf hD11 => ?_)
    refine ag_sipush (-3000 : Int32) dL_areGames_26 (by decide) ?_
    refine ag_icmp_ne 79 dL_areGames_29 (by decide) (fun c12 => ?_) (fun c12 => ?_)
    · rw [if_neg c12] at hf
      refine ag_iconst (0 : Int32) dL_areGames_79 (by decide) ?_
      refine ag_lv [0, 1, 2, 3, 4, 5, 6, 7, 8] rfl ?_
      exact wkL_areGames_80 hl hb hb0 _ _ _ hD11 ⟨show 0 + 2 + 2 + (226) ≤ 236 by omega, show 0 + 12 + 12 + (1356) ≤ 1416 by omega⟩ hf
    · rw [if_pos c12] at hf
      refine ag_qload_n 0 dL_areGames_32 rfl ?_
      refine ag_iconst (2 : Int32) dL_areGames_33 (by decide) ?_
      refine ag_iconst (-1 : Int32) dL_areGames_34 (by decide) ?_
      refine ag_iconst (0 : Int32) dL_areGames_35 (by decide) ?_
      refine ag_callRH (fun s a c h => h.1) [va_rf (some t), .int (2 : Int32), .int (-1 : Int32), .int (0 : Int32)] 4 (ctL_asks hl _ _ _ _ _ hD11 hf) ⟨wl3 (i := 198) rfl rfl, ciL_asks⟩ (wl3 (i := 199) rfl rfl) dL_areGames_36 rfl rfl (Nat.le_of_ble_eq_true rfl) ⟨Nat.le_of_ble_eq_true rfl, Nat.le_of_ble_eq_true rfl⟩ ⟨show 0 + 2 + 2 + 2 ≤ 236 by omega, show 0 + 12 + 12 + 12 ≤ 1416 by omega⟩ (fun v14 h15 L16 hf hD17 => ?_)
      refine ag_sipush (-3000 : Int32) dL_areGames_39 (by decide) ?_
      refine ag_icmp_ne 79 dL_areGames_42 (by decide) (fun c18 => ?_) (fun c18 => ?_)
      · rw [if_neg c18] at hf
        refine ag_iconst (0 : Int32) dL_areGames_79 (by decide) ?_
        refine ag_lv [0, 1, 2, 3, 4, 5, 6, 7, 8] rfl ?_
        exact wkL_areGames_80 hl hb hb0 _ _ _ hD17 ⟨show 0 + 2 + 2 + 2 + (226) ≤ 236 by omega, show 0 + 12 + 12 + 12 + (1356) ≤ 1416 by omega⟩ hf
      · rw [if_pos c18] at hf
        refine ag_qload_n 0 dL_areGames_45 rfl ?_
        refine ag_iconst (5 : Int32) dL_areGames_46 (by decide) ?_
        refine ag_aload 8 dL_areGames_47 rfl ?_
        refine ag_iconst (1 : Int32) dL_areGames_49 (by decide) ?_
        refine ar_iald 7 5 hD17 rfl (by decide) (xin_v (by decide)) dL_areGames_50 ?_
        refine ag_iconst (0 : Int32) dL_areGames_51 (by decide) ?_
        refine ag_callRH (fun s a c h => h.1) [va_rf (some t), .int (5 : Int32), .int (m_I L16 7 (1 : Int32).toNatClampNeg), .int (0 : Int32)] 4 (ctL_asks hl _ _ _ _ _ hD17 hf) ⟨wl3 (i := 198) rfl rfl, ciL_asks⟩ (wl3 (i := 199) rfl rfl) dL_areGames_52 rfl rfl (Nat.le_of_ble_eq_true rfl) ⟨Nat.le_of_ble_eq_true rfl, Nat.le_of_ble_eq_true rfl⟩ ⟨show 0 + 2 + 2 + 2 + 2 ≤ 236 by omega, show 0 + 12 + 12 + 12 + 12 ≤ 1416 by omega⟩ (fun v20 h21 L22 hf hD23 => ?_)
        refine ag_sipush (-3000 : Int32) dL_areGames_55 (by decide) ?_
        refine ag_icmp_ne 79 dL_areGames_58 (by decide) (fun c24 => ?_) (fun c24 => ?_)
        · rw [if_neg c24] at hf
          refine ag_iconst (0 : Int32) dL_areGames_79 (by decide) ?_
          refine ag_lv [0, 1, 2, 3, 4, 5, 6, 7, 8] rfl ?_
          exact wkL_areGames_80 hl hb hb0 _ _ _ hD23 ⟨show 0 + 2 + 2 + 2 + 2 + (226) ≤ 236 by omega, show 0 + 12 + 12 + 12 + 12 + (1356) ≤ 1416 by omega⟩ hf
        · rw [if_pos c24] at hf
          refine ag_qload_n 0 dL_areGames_61 rfl ?_
          refine ag_bipush (8 : Int32) dL_areGames_62 (by decide) ?_
          refine ag_iconst (-1 : Int32) dL_areGames_64 (by decide) ?_
          refine ag_iconst (0 : Int32) dL_areGames_65 (by decide) ?_
          refine ag_callRH (fun s a c h => h.1) [va_rf (some t), .int (8 : Int32), .int (-1 : Int32), .int (0 : Int32)] 4 (ctL_asks hl _ _ _ _ _ hD23 hf) ⟨wl3 (i := 198) rfl rfl, ciL_asks⟩ (wl3 (i := 199) rfl rfl) dL_areGames_66 rfl rfl (Nat.le_of_ble_eq_true rfl) ⟨Nat.le_of_ble_eq_true rfl, Nat.le_of_ble_eq_true rfl⟩ ⟨show 0 + 2 + 2 + 2 + 2 + 2 ≤ 236 by omega, show 0 + 12 + 12 + 12 + 12 + 12 ≤ 1416 by omega⟩ (fun v26 h27 L28 hf hD29 => ?_)
          refine ag_sipush (-3000 : Int32) dL_areGames_69 (by decide) ?_
          refine ag_icmp_ne 79 dL_areGames_72 (by decide) (fun c30 => ?_) (fun c30 => ?_)
          · rw [if_neg c30] at hf
            refine ag_iconst (0 : Int32) dL_areGames_79 (by decide) ?_
            refine ag_lv [0, 1, 2, 3, 4, 5, 6, 7, 8] rfl ?_
            exact wkL_areGames_80 hl hb hb0 _ _ _ hD29 ⟨show 0 + 2 + 2 + 2 + 2 + 2 + (226) ≤ 236 by omega, show 0 + 12 + 12 + 12 + 12 + 12 + (1356) ≤ 1416 by omega⟩ hf
          · rw [if_pos c30] at hf
            refine ag_iconst (1 : Int32) dL_areGames_75 (by decide) ?_
            refine ag_goto 80 dL_areGames_76 (by decide) ?_
            refine ag_lv [0, 1, 2, 3, 4, 5, 6, 7, 8] rfl ?_
            exact wkL_areGames_80 hl hb hb0 _ _ _ hD29 ⟨show 0 + 2 + 2 + 2 + 2 + 2 + (226) ≤ 236 by omega, show 0 + 12 + 12 + 12 + 12 + 12 + (1356) ≤ 1416 by omega⟩ hf
abbrev ML_isBoard : xM := (RL, cL_isBoard, 12, (some .boolean), "isBoard")
abbrev rmL_isBoard : Room := { frames := 9, cells := 310, slots := 1860, locals := 159 }
theorem ciL_isBoard : Cond.code yL_isBoard cL_isBoard 12 (some .boolean) ∈ wt ∧ Cond.initialized yL_isBoard.cls ∈ wt ∧ (yL_isBoard.cls ≠ "java/lang/invoke/MethodHandle" ∧ yL_isBoard.cls ≠ "java/lang/invoke/VarHandle" ∧ (parseMethodDescriptor yL_isBoard.desc).map (fun d => d.parameters.length) = some 6) := ⟨wl4 (i := 98) rfl rfl, wl1 (i := 0) rfl rfl, by decide +kernel, by decide +kernel, by decide +kernel⟩
def gL_isBoard_226 (lo t Ls : Nat) (xs : Nat → Int32) (K : Int32 → TH → MS → Prop) (k51 : TH → MS → Int32 → Int32 → Int32 → Int32 → Prop) (h : TH) (L : MS) (a5 : Int32) (a6 : Int32) (a8 : Int32) (s0 : Int32) : Prop :=
  k51 h L a5 a6 s0 (a8 + (1 : Int32))
set_option maxHeartbeats 4000000 in
set_option maxRecDepth 100000 in
theorem wkL_isBoard_226 {l : Launch} {g : xG} {x0 : xV} {b lo t Ls : Nat} {xs : Nat → Int32} {K : Int32 → TH → MS → Prop} {kc ks : Nat} {Y Y2 : Nat} (hl : l.stackTraces = false) (hb : b + 8 < lo) (hb0 : b < x0.1 ∧ x0.2 b = none) (k51 : TH → MS → Int32 → Int32 → Int32 → Int32 → Prop) (hk51 : ∀ (kc ks : Nat) (h : TH) (L : MS) (a5 : Int32) (a6 : Int32) (a7 : Int32) (a8 : Int32), LDp lo h → (kc + Y ≤ 310 ∧ ks + Y2 ≤ 1860) → k51 h L a5 a6 a7 a8 → AWG (XS b Ls xs) (zR rmL_isBoard g lo x0 K) ML_isBoard rmL_isBoard l g x0 kc ks (LW g lo h L) 51 [(0, va_rf (some t)), (1, .ref (lo + 0)), (2, .ref (lo + 1)), (5, .int a5), (6, .int a6), (7, .int a7), (8, .int a8)] []) (hY : 0 ≤ Y ∧ 0 ≤ Y2) (h : TH) (L : MS) (a5 : Int32) (a6 : Int32) (a8 : Int32) (s0 : Int32) (hD : LDp lo h) (hc : kc + (0 + Y) ≤ 310 ∧ ks + (0 + Y2) ≤ 1860) (hf : gL_isBoard_226 lo t Ls xs K k51 h L a5 a6 a8 s0) : AWG (XS b Ls xs) (zR rmL_isBoard g lo x0 K) ML_isBoard rmL_isBoard l g x0 kc ks (LW g lo h L) 226 [(0, va_rf (some t)), (1, .ref (lo + 0)), (2, .ref (lo + 1)), (5, .int a5), (6, .int a6), (8, .int a8)] [.int s0] := by
  rw [gL_isBoard_226] at hf
  refine ag_istore [(7, .int s0), (0, va_rf (some t)), (1, .ref (lo + 0)), (2, .ref (lo + 1)), (5, .int a5), (6, .int a6), (8, .int a8)] dL_isBoard_226 (by decide) rfl ?_
  refine ag_iinc [(8, .int (a8 + (1 : Int32))), (7, .int s0), (0, va_rf (some t)), (1, .ref (lo + 0)), (2, .ref (lo + 1)), (5, .int a5), (6, .int a6)] 6 dL_isBoard_228 rfl rfl (by decide) rfl ?_
  refine ag_goto 51 dL_isBoard_231 (by decide) ?_
  refine ag_lv [2, 3, 4, 5, 6, 1, 0] rfl ?_
  exact hk51 _ _ _ _ _ _ _ _ hD ⟨show kc + Y ≤ 310 by omega, show ks + Y2 ≤ 1860 by omega⟩ hf
def gL_isBoard_192 (lo t Ls : Nat) (xs : Nat → Int32) (K : Int32 → TH → MS → Prop) (k51 : TH → MS → Int32 → Int32 → Int32 → Int32 → Prop) (h : TH) (L : MS) (a5 : Int32) (a6 : Int32) (a8 : Int32) (a11 : Int32) (s0 : Int32) (s1 : Int32) : Prop :=
  (if s0 = s1 then (t_kd h t = 7 ∧ ∃ v4 h5, fX8_liberties h t a5 a8 = some (.inl (v4, h5)) ∧ LDp lo h5 ∧ (if v4 = a11 then (t_kd h5 t = 7 ∧ ∃ v10 h11, fX8_flooded h5 t a5 a8 = some (.inl (v10, h11)) ∧ LDp lo h11 ∧ (if v10 = a11 then gL_isBoard_226 lo t Ls xs K k51 h11 L a5 a6 a8 (1 : Int32) else gL_isBoard_226 lo t Ls xs K k51 h11 L a5 a6 a8 (0 : Int32))) else gL_isBoard_226 lo t Ls xs K k51 h5 L a5 a6 a8 (0 : Int32))) else gL_isBoard_226 lo t Ls xs K k51 h L a5 a6 a8 (0 : Int32))
set_option maxHeartbeats 4000000 in
set_option maxRecDepth 100000 in
theorem wkL_isBoard_192 {l : Launch} {g : xG} {x0 : xV} {b lo t Ls : Nat} {xs : Nat → Int32} {K : Int32 → TH → MS → Prop} {kc ks : Nat} {Y Y2 : Nat} (hl : l.stackTraces = false) (hb : b + 8 < lo) (hb0 : b < x0.1 ∧ x0.2 b = none) (k51 : TH → MS → Int32 → Int32 → Int32 → Int32 → Prop) (hk51 : ∀ (kc ks : Nat) (h : TH) (L : MS) (a5 : Int32) (a6 : Int32) (a7 : Int32) (a8 : Int32), LDp lo h → (kc + Y ≤ 310 ∧ ks + Y2 ≤ 1860) → k51 h L a5 a6 a7 a8 → AWG (XS b Ls xs) (zR rmL_isBoard g lo x0 K) ML_isBoard rmL_isBoard l g x0 kc ks (LW g lo h L) 51 [(0, va_rf (some t)), (1, .ref (lo + 0)), (2, .ref (lo + 1)), (5, .int a5), (6, .int a6), (7, .int a7), (8, .int a8)] []) (hY : 0 ≤ Y ∧ 0 ≤ Y2) (h : TH) (L : MS) (a5 : Int32) (a6 : Int32) (a8 : Int32) (a11 : Int32) (s0 : Int32) (s1 : Int32) (hD : LDp lo h) (hc : kc + (4 + Y) ≤ 310 ∧ ks + (24 + Y2) ≤ 1860) (hf : gL_isBoard_192 lo t Ls xs K k51 h L a5 a6 a8 a11 s0 s1) : AWG (XS b Ls xs) (zR rmL_isBoard g lo x0 K) ML_isBoard rmL_isBoard l g x0 kc ks (LW g lo h L) 192 [(0, va_rf (some t)), (1, .ref (lo + 0)), (2, .ref (lo + 1)), (5, .int a5), (6, .int a6), (8, .int a8), (11, .int a11)] [.int s1, .int s0] := by
  rw [gL_isBoard_192] at hf
  refine ag_icmp_ne 225 dL_isBoard_192 (by decide) (fun c1 => ?_) (fun c1 => ?_)
  · rw [if_neg c1] at hf
    refine ag_iconst (0 : Int32) dL_isBoard_225 (by decide) ?_
    refine ag_lv [0, 1, 2, 3, 4, 5] rfl ?_
    exact wkL_isBoard_226 (Y := Y) (Y2 := Y2) hl hb hb0 _ hk51 hY _ _ _ _ _ _ hD ⟨show kc + (0 + Y) ≤ 310 by omega, show ks + (0 + Y2) ≤ 1860 by omega⟩ hf
  · rw [if_pos c1] at hf
    refine ag_qload_n 0 dL_isBoard_195 rfl ?_
    refine ag_iload 3 dL_isBoard_196 rfl ?_
    refine ag_iload 5 dL_isBoard_198 rfl ?_
    obtain ⟨hk_2, v4, h5, q3, hD6, hf⟩ := hf
    refine ag_callV 6 (some t) [.int a5, .int a8] 2 rfl (LW_ob hk_2) rfl rfl (ctC hD (ctX8_liberties hl h _ _ _ q3)) ⟨wl3 (i := 237) rfl rfl, ciX8_liberties.1, ciX8_liberties.2.1, ciX8_liberties.2.2⟩ (wl3 (i := 238) rfl rfl) (wl3 (i := 239) rfl rfl) dL_isBoard_200 rfl rfl (Nat.le_of_ble_eq_true rfl) ⟨Nat.le_of_ble_eq_true rfl, Nat.le_of_ble_eq_true rfl⟩ ⟨show kc + 2 ≤ 310 by omega, show ks + 12 ≤ 1860 by omega⟩ (fun _ => ?_)
    refine ag_iload 6 dL_isBoard_203 rfl ?_
    refine ag_icmp_ne 225 dL_isBoard_205 (by decide) (fun c7 => ?_) (fun c7 => ?_)
    · rw [if_neg c7] at hf
      refine ag_iconst (0 : Int32) dL_isBoard_225 (by decide) ?_
      refine ag_lv [0, 1, 2, 3, 4, 5] rfl ?_
      exact wkL_isBoard_226 (Y := Y) (Y2 := Y2) hl hb hb0 _ hk51 hY _ _ _ _ _ _ hD6 ⟨show kc + 2 + (0 + Y) ≤ 310 by omega, show ks + 12 + (0 + Y2) ≤ 1860 by omega⟩ hf
    · rw [if_pos c7] at hf
      refine ag_qload_n 0 dL_isBoard_208 rfl ?_
      refine ag_iload 3 dL_isBoard_209 rfl ?_
      refine ag_iload 5 dL_isBoard_211 rfl ?_
      obtain ⟨hk_8, v10, h11, q9, hD12, hf⟩ := hf
      refine ag_callV 6 (some t) [.int a5, .int a8] 2 rfl (LW_ob hk_8) rfl rfl (ctC hD6 (ctX8_flooded hl h5 _ _ _ q9)) ⟨wl4 (i := 5) rfl rfl, ciX8_flooded.1, ciX8_flooded.2.1, ciX8_flooded.2.2⟩ (wl4 (i := 6) rfl rfl) (wl4 (i := 7) rfl rfl) dL_isBoard_213 rfl rfl (Nat.le_of_ble_eq_true rfl) ⟨Nat.le_of_ble_eq_true rfl, Nat.le_of_ble_eq_true rfl⟩ ⟨show kc + 2 + 2 ≤ 310 by omega, show ks + 12 + 12 ≤ 1860 by omega⟩ (fun _ => ?_)
      refine ag_iload 6 dL_isBoard_216 rfl ?_
      refine ag_icmp_ne 225 dL_isBoard_218 (by decide) (fun c13 => ?_) (fun c13 => ?_)
      · rw [if_neg c13] at hf
        refine ag_iconst (0 : Int32) dL_isBoard_225 (by decide) ?_
        refine ag_lv [0, 1, 2, 3, 4, 5] rfl ?_
        exact wkL_isBoard_226 (Y := Y) (Y2 := Y2) hl hb hb0 _ hk51 hY _ _ _ _ _ _ hD12 ⟨show kc + 2 + 2 + (0 + Y) ≤ 310 by omega, show ks + 12 + 12 + (0 + Y2) ≤ 1860 by omega⟩ hf
      · rw [if_pos c13] at hf
        refine ag_iconst (1 : Int32) dL_isBoard_221 (by decide) ?_
        refine ag_goto 226 dL_isBoard_222 (by decide) ?_
        refine ag_lv [0, 1, 2, 3, 4, 5] rfl ?_
        exact wkL_isBoard_226 (Y := Y) (Y2 := Y2) hl hb hb0 _ hk51 hY _ _ _ _ _ _ hD12 ⟨show kc + 2 + 2 + (0 + Y) ≤ 310 by omega, show ks + 12 + 12 + (0 + Y2) ≤ 1860 by omega⟩ hf
def gL_isBoard_160 (lo t Ls : Nat) (xs : Nat → Int32) (K : Int32 → TH → MS → Prop) (k51 : TH → MS → Int32 → Int32 → Int32 → Int32 → Prop) (h : TH) (L : MS) (a5 : Int32) (a6 : Int32) (a8 : Int32) (a9 : Int32) (a10 : Int32) (s0 : Int32) : Prop :=
  (t_kd h t = 7 ∧ ∃ v3 h4, fX8_sign h t a5 a8 = some (.inl (v3, h4)) ∧ LDp lo h4 ∧ (if a9 = 0 then (if a10 = 0 then gL_isBoard_192 lo t Ls xs K k51 h4 L a5 a6 a8 s0 v3 (46 : Int32) else gL_isBoard_192 lo t Ls xs K k51 h4 L a5 a6 a8 s0 v3 (79 : Int32)) else gL_isBoard_192 lo t Ls xs K k51 h4 L a5 a6 a8 s0 v3 (88 : Int32)))
set_option maxHeartbeats 4000000 in
set_option maxRecDepth 100000 in
theorem wkL_isBoard_160 {l : Launch} {g : xG} {x0 : xV} {b lo t Ls : Nat} {xs : Nat → Int32} {K : Int32 → TH → MS → Prop} {kc ks : Nat} {Y Y2 : Nat} (hl : l.stackTraces = false) (hb : b + 8 < lo) (hb0 : b < x0.1 ∧ x0.2 b = none) (k51 : TH → MS → Int32 → Int32 → Int32 → Int32 → Prop) (hk51 : ∀ (kc ks : Nat) (h : TH) (L : MS) (a5 : Int32) (a6 : Int32) (a7 : Int32) (a8 : Int32), LDp lo h → (kc + Y ≤ 310 ∧ ks + Y2 ≤ 1860) → k51 h L a5 a6 a7 a8 → AWG (XS b Ls xs) (zR rmL_isBoard g lo x0 K) ML_isBoard rmL_isBoard l g x0 kc ks (LW g lo h L) 51 [(0, va_rf (some t)), (1, .ref (lo + 0)), (2, .ref (lo + 1)), (5, .int a5), (6, .int a6), (7, .int a7), (8, .int a8)] []) (hY : 0 ≤ Y ∧ 0 ≤ Y2) (h : TH) (L : MS) (a5 : Int32) (a6 : Int32) (a8 : Int32) (a9 : Int32) (a10 : Int32) (s0 : Int32) (hD : LDp lo h) (hc : kc + (6 + Y) ≤ 310 ∧ ks + (36 + Y2) ≤ 1860) (hf : gL_isBoard_160 lo t Ls xs K k51 h L a5 a6 a8 a9 a10 s0) : AWG (XS b Ls xs) (zR rmL_isBoard g lo x0 K) ML_isBoard rmL_isBoard l g x0 kc ks (LW g lo h L) 160 [(0, va_rf (some t)), (1, .ref (lo + 0)), (2, .ref (lo + 1)), (5, .int a5), (6, .int a6), (8, .int a8), (9, .int a9), (10, .int a10)] [.int s0] := by
  rw [gL_isBoard_160] at hf
  refine ag_istore [(11, .int s0), (0, va_rf (some t)), (1, .ref (lo + 0)), (2, .ref (lo + 1)), (5, .int a5), (6, .int a6), (8, .int a8), (9, .int a9), (10, .int a10)] dL_isBoard_160 (by decide) rfl ?_
  refine ag_qload_n 1 dL_isBoard_162 rfl ?_
  refine ag_iload 4 dL_isBoard_163 rfl ?_
  refine ag_iload 6 dL_isBoard_165 rfl ?_
  obtain ⟨hk_1, v3, h4, q2, hD5, hf⟩ := hf
  refine ag_callV 6 (some t) [.int a5, .int a8] 2 rfl (LW_ob hk_1) rfl rfl (ctC hD (ctX8_sign hl h _ _ _ q2)) ⟨wl3 (i := 214) rfl rfl, ciX8_sign.1, ciX8_sign.2.1, ciX8_sign.2.2⟩ (wl3 (i := 215) rfl rfl) (wl3 (i := 216) rfl rfl) dL_isBoard_167 rfl rfl (Nat.le_of_ble_eq_true rfl) ⟨Nat.le_of_ble_eq_true rfl, Nat.le_of_ble_eq_true rfl⟩ ⟨show kc + 2 ≤ 310 by omega, show ks + 12 ≤ 1860 by omega⟩ (fun _ => ?_)
  refine ag_iload 7 dL_isBoard_170 rfl ?_
  refine ag_if_eq 180 dL_isBoard_172 (by decide) (fun c6 => ?_) (fun c6 => ?_)
  · rw [if_pos c6] at hf
    refine ag_iload 8 dL_isBoard_180 rfl ?_
    refine ag_if_eq 190 dL_isBoard_182 (by decide) (fun c7 => ?_) (fun c7 => ?_)
    · rw [if_pos c7] at hf
      refine ag_bipush (46 : Int32) dL_isBoard_190 (by decide) ?_
      refine ag_lv [1, 2, 3, 4, 5, 6, 0] rfl ?_
      exact wkL_isBoard_192 (Y := Y) (Y2 := Y2) hl hb hb0 _ hk51 hY _ _ _ _ _ _ _ _ hD5 ⟨show kc + 2 + (4 + Y) ≤ 310 by omega, show ks + 12 + (24 + Y2) ≤ 1860 by omega⟩ hf
    · rw [if_neg c7] at hf
      refine ag_bipush (79 : Int32) dL_isBoard_185 (by decide) ?_
      refine ag_goto 192 dL_isBoard_187 (by decide) ?_
      refine ag_lv [1, 2, 3, 4, 5, 6, 0] rfl ?_
      exact wkL_isBoard_192 (Y := Y) (Y2 := Y2) hl hb hb0 _ hk51 hY _ _ _ _ _ _ _ _ hD5 ⟨show kc + 2 + (4 + Y) ≤ 310 by omega, show ks + 12 + (24 + Y2) ≤ 1860 by omega⟩ hf
  · rw [if_neg c6] at hf
    refine ag_bipush (88 : Int32) dL_isBoard_175 (by decide) ?_
    refine ag_goto 192 dL_isBoard_177 (by decide) ?_
    refine ag_lv [1, 2, 3, 4, 5, 6, 0] rfl ?_
    exact wkL_isBoard_192 (Y := Y) (Y2 := Y2) hl hb hb0 _ hk51 hY _ _ _ _ _ _ _ _ hD5 ⟨show kc + 2 + (4 + Y) ≤ 310 by omega, show ks + 12 + (24 + Y2) ≤ 1860 by omega⟩ hf
def gL_isBoard_135 (lo t Ls : Nat) (xs : Nat → Int32) (K : Int32 → TH → MS → Prop) (k51 : TH → MS → Int32 → Int32 → Int32 → Int32 → Prop) (h : TH) (L : MS) (a5 : Int32) (a6 : Int32) (a8 : Int32) (a9 : Int32) (a10 : Int32) (s0 : Int64) : Prop :=
  (∃ q1, fL_chain s0 a8 = some q1 ∧ (∃ q2, fL_around q1 = some q2 ∧ (xin a6 64 = true ∧ (∃ q4, fL_bits (q2 &&& (((m_J L 0 a6.toNatClampNeg) ||| (m_J L 1 a6.toNatClampNeg)) ^^^ (-1 : Int64))) = some q4 ∧ gL_isBoard_160 lo t Ls xs K k51 h L a5 a6 a8 a9 a10 q4))))
set_option maxHeartbeats 4000000 in
set_option maxRecDepth 100000 in
theorem wkL_isBoard_135 {l : Launch} {g : xG} {x0 : xV} {b lo t Ls : Nat} {xs : Nat → Int32} {K : Int32 → TH → MS → Prop} {kc ks : Nat} {Y Y2 : Nat} (hl : l.stackTraces = false) (hb : b + 8 < lo) (hb0 : b < x0.1 ∧ x0.2 b = none) (k51 : TH → MS → Int32 → Int32 → Int32 → Int32 → Prop) (hk51 : ∀ (kc ks : Nat) (h : TH) (L : MS) (a5 : Int32) (a6 : Int32) (a7 : Int32) (a8 : Int32), LDp lo h → (kc + Y ≤ 310 ∧ ks + Y2 ≤ 1860) → k51 h L a5 a6 a7 a8 → AWG (XS b Ls xs) (zR rmL_isBoard g lo x0 K) ML_isBoard rmL_isBoard l g x0 kc ks (LW g lo h L) 51 [(0, va_rf (some t)), (1, .ref (lo + 0)), (2, .ref (lo + 1)), (5, .int a5), (6, .int a6), (7, .int a7), (8, .int a8)] []) (hY : 0 ≤ Y ∧ 0 ≤ Y2) (h : TH) (L : MS) (a5 : Int32) (a6 : Int32) (a8 : Int32) (a9 : Int32) (a10 : Int32) (s0 : Int64) (hD : LDp lo h) (hc : kc + (6 + Y) ≤ 310 ∧ ks + (36 + Y2) ≤ 1860) (hf : gL_isBoard_135 lo t Ls xs K k51 h L a5 a6 a8 a9 a10 s0) : AWG (XS b Ls xs) (zR rmL_isBoard g lo x0 K) ML_isBoard rmL_isBoard l g x0 kc ks (LW g lo h L) 135 [(0, va_rf (some t)), (1, .ref (lo + 0)), (2, .ref (lo + 1)), (5, .int a5), (6, .int a6), (8, .int a8), (9, .int a9), (10, .int a10)] [.long s0] := by
  rw [gL_isBoard_135] at hf
  refine ag_iload 5 dL_isBoard_135 rfl ?_
  obtain ⟨q1, hq1, hf⟩ := hf
  refine ag_callS [.long s0, .int a8] 2 (ctA hD (ctL_chain (L := L) hl _ _ hq1)) ⟨wl4 (i := 57) rfl rfl, ciL_chain⟩ (wl4 (i := 58) rfl rfl) dL_isBoard_137 rfl rfl (Nat.le_of_ble_eq_true rfl) ⟨Nat.le_of_ble_eq_true rfl, Nat.le_of_ble_eq_true rfl⟩ ⟨show kc + 0 + 0 ≤ 310 by omega, show ks + 0 + 0 ≤ 1860 by omega⟩ (fun _ => ?_)
  obtain ⟨q2, hq2, hf⟩ := hf
  refine ag_callS [.long q1] 1 (ctA hD (ctL_around (L := L) hl _ hq2)) ⟨wl4 (i := 60) rfl rfl, ciL_around⟩ (wl4 (i := 61) rfl rfl) dL_isBoard_140 rfl rfl (Nat.le_of_ble_eq_true rfl) ⟨Nat.le_of_ble_eq_true rfl, Nat.le_of_ble_eq_true rfl⟩ ⟨show kc + 0 + 0 + 0 ≤ 310 by omega, show ks + 0 + 0 + 0 ≤ 1860 by omega⟩ (fun _ => ?_)
  refine ag_aload_n 1 dL_isBoard_143 rfl ?_
  refine ag_iload 4 dL_isBoard_144 rfl ?_
  obtain ⟨hi3, hf⟩ := hf
  refine ar_lald 0 64 hD rfl (by decide) (xin_v hi3) dL_isBoard_146 ?_
  refine ag_aload_n 2 dL_isBoard_147 rfl ?_
  refine ag_iload 4 dL_isBoard_148 rfl ?_
  refine ar_lald 1 64 hD rfl (by decide) (xin_v hi3) dL_isBoard_150 ?_
  refine ag_lor dL_isBoard_151 ?_
  refine ag_ldc2 (-1 : Int64) rfl (wl4 (i := 56) rfl rfl) dL_isBoard_152 ?_
  refine ag_lxor dL_isBoard_155 ?_
  refine ag_land dL_isBoard_156 ?_
  obtain ⟨q4, hq4, hf⟩ := hf
  refine ag_callS [.long (q2 &&& (((m_J L 0 a6.toNatClampNeg) ||| (m_J L 1 a6.toNatClampNeg)) ^^^ (-1 : Int64)))] 1 (ctA hD (ctL_bits (L := L) hl _ hq4)) ⟨wl4 (i := 52) rfl rfl, ciL_bits⟩ (wl4 (i := 53) rfl rfl) dL_isBoard_157 rfl rfl (Nat.le_of_ble_eq_true rfl) ⟨Nat.le_of_ble_eq_true rfl, Nat.le_of_ble_eq_true rfl⟩ ⟨show kc + 0 + 0 + 0 + 0 ≤ 310 by omega, show ks + 0 + 0 + 0 + 0 ≤ 1860 by omega⟩ (fun _ => ?_)
  refine ag_lv [0, 1, 2, 3, 4, 5, 6, 7] rfl ?_
  exact wkL_isBoard_160 (Y := Y) (Y2 := Y2) hl hb hb0 _ hk51 hY _ _ _ _ _ _ _ _ hD ⟨show kc + 0 + 0 + 0 + (6 + Y) ≤ 310 by omega, show ks + 0 + 0 + 0 + (36 + Y2) ≤ 1860 by omega⟩ hf
def gL_isBoard_119 (lo t Ls : Nat) (xs : Nat → Int32) (K : Int32 → TH → MS → Prop) (k51 : TH → MS → Int32 → Int32 → Int32 → Int32 → Prop) (h : TH) (L : MS) (a5 : Int32) (a6 : Int32) (a8 : Int32) (a9 : Int32) (a10 : Int32) : Prop :=
  (if a9 = 0 then (xin a6 64 = true ∧ gL_isBoard_135 lo t Ls xs K k51 h L a5 a6 a8 a9 a10 (m_J L 1 a6.toNatClampNeg)) else (xin a6 64 = true ∧ gL_isBoard_135 lo t Ls xs K k51 h L a5 a6 a8 a9 a10 (m_J L 0 a6.toNatClampNeg)))
set_option maxHeartbeats 4000000 in
set_option maxRecDepth 100000 in
theorem wkL_isBoard_119 {l : Launch} {g : xG} {x0 : xV} {b lo t Ls : Nat} {xs : Nat → Int32} {K : Int32 → TH → MS → Prop} {kc ks : Nat} {Y Y2 : Nat} (hl : l.stackTraces = false) (hb : b + 8 < lo) (hb0 : b < x0.1 ∧ x0.2 b = none) (k51 : TH → MS → Int32 → Int32 → Int32 → Int32 → Prop) (hk51 : ∀ (kc ks : Nat) (h : TH) (L : MS) (a5 : Int32) (a6 : Int32) (a7 : Int32) (a8 : Int32), LDp lo h → (kc + Y ≤ 310 ∧ ks + Y2 ≤ 1860) → k51 h L a5 a6 a7 a8 → AWG (XS b Ls xs) (zR rmL_isBoard g lo x0 K) ML_isBoard rmL_isBoard l g x0 kc ks (LW g lo h L) 51 [(0, va_rf (some t)), (1, .ref (lo + 0)), (2, .ref (lo + 1)), (5, .int a5), (6, .int a6), (7, .int a7), (8, .int a8)] []) (hY : 0 ≤ Y ∧ 0 ≤ Y2) (h : TH) (L : MS) (a5 : Int32) (a6 : Int32) (a8 : Int32) (a9 : Int32) (a10 : Int32) (hD : LDp lo h) (hc : kc + (6 + Y) ≤ 310 ∧ ks + (36 + Y2) ≤ 1860) (hf : gL_isBoard_119 lo t Ls xs K k51 h L a5 a6 a8 a9 a10) : AWG (XS b Ls xs) (zR rmL_isBoard g lo x0 K) ML_isBoard rmL_isBoard l g x0 kc ks (LW g lo h L) 119 [(0, va_rf (some t)), (1, .ref (lo + 0)), (2, .ref (lo + 1)), (5, .int a5), (6, .int a6), (8, .int a8), (9, .int a9), (10, .int a10)] [] := by
  rw [gL_isBoard_119] at hf
  refine ag_iload 6 dL_isBoard_119 rfl ?_
  refine ag_if_eq 131 dL_isBoard_121 (by decide) (fun c1 => ?_) (fun c1 => ?_)
  · rw [if_pos c1] at hf
    refine ag_aload_n 2 dL_isBoard_131 rfl ?_
    refine ag_iload 4 dL_isBoard_132 rfl ?_
    obtain ⟨hi2, hf⟩ := hf
    refine ar_lald 1 64 hD rfl (by decide) (xin_v hi2) dL_isBoard_134 ?_
    refine ag_lv [0, 1, 2, 3, 4, 5, 6, 7] rfl ?_
    exact wkL_isBoard_135 (Y := Y) (Y2 := Y2) hl hb hb0 _ hk51 hY _ _ _ _ _ _ _ _ hD ⟨show kc + (6 + Y) ≤ 310 by omega, show ks + (36 + Y2) ≤ 1860 by omega⟩ hf
  · rw [if_neg c1] at hf
    refine ag_aload_n 1 dL_isBoard_124 rfl ?_
    refine ag_iload 4 dL_isBoard_125 rfl ?_
    obtain ⟨hi3, hf⟩ := hf
    refine ar_lald 0 64 hD rfl (by decide) (xin_v hi3) dL_isBoard_127 ?_
    refine ag_goto 135 dL_isBoard_128 (by decide) ?_
    refine ag_lv [0, 1, 2, 3, 4, 5, 6, 7] rfl ?_
    exact wkL_isBoard_135 (Y := Y) (Y2 := Y2) hl hb hb0 _ hk51 hY _ _ _ _ _ _ _ _ hD ⟨show kc + (6 + Y) ≤ 310 by omega, show ks + (36 + Y2) ≤ 1860 by omega⟩ hf
def gL_isBoard_103 (lo t Ls : Nat) (xs : Nat → Int32) (K : Int32 → TH → MS → Prop) (k51 : TH → MS → Int32 → Int32 → Int32 → Int32 → Prop) (h : TH) (L : MS) (a5 : Int32) (a6 : Int32) (a8 : Int32) (a9 : Int32) (s0 : Int32) : Prop :=
  (if a9 = 0 then (if s0 = 0 then gL_isBoard_160 lo t Ls xs K k51 h L a5 a6 a8 a9 s0 (0 : Int32) else gL_isBoard_119 lo t Ls xs K k51 h L a5 a6 a8 a9 s0) else gL_isBoard_119 lo t Ls xs K k51 h L a5 a6 a8 a9 s0)
set_option maxHeartbeats 4000000 in
set_option maxRecDepth 100000 in
theorem wkL_isBoard_103 {l : Launch} {g : xG} {x0 : xV} {b lo t Ls : Nat} {xs : Nat → Int32} {K : Int32 → TH → MS → Prop} {kc ks : Nat} {Y Y2 : Nat} (hl : l.stackTraces = false) (hb : b + 8 < lo) (hb0 : b < x0.1 ∧ x0.2 b = none) (k51 : TH → MS → Int32 → Int32 → Int32 → Int32 → Prop) (hk51 : ∀ (kc ks : Nat) (h : TH) (L : MS) (a5 : Int32) (a6 : Int32) (a7 : Int32) (a8 : Int32), LDp lo h → (kc + Y ≤ 310 ∧ ks + Y2 ≤ 1860) → k51 h L a5 a6 a7 a8 → AWG (XS b Ls xs) (zR rmL_isBoard g lo x0 K) ML_isBoard rmL_isBoard l g x0 kc ks (LW g lo h L) 51 [(0, va_rf (some t)), (1, .ref (lo + 0)), (2, .ref (lo + 1)), (5, .int a5), (6, .int a6), (7, .int a7), (8, .int a8)] []) (hY : 0 ≤ Y ∧ 0 ≤ Y2) (h : TH) (L : MS) (a5 : Int32) (a6 : Int32) (a8 : Int32) (a9 : Int32) (s0 : Int32) (hD : LDp lo h) (hc : kc + (6 + Y) ≤ 310 ∧ ks + (36 + Y2) ≤ 1860) (hf : gL_isBoard_103 lo t Ls xs K k51 h L a5 a6 a8 a9 s0) : AWG (XS b Ls xs) (zR rmL_isBoard g lo x0 K) ML_isBoard rmL_isBoard l g x0 kc ks (LW g lo h L) 103 [(0, va_rf (some t)), (1, .ref (lo + 0)), (2, .ref (lo + 1)), (5, .int a5), (6, .int a6), (8, .int a8), (9, .int a9)] [.int s0] := by
  rw [gL_isBoard_103] at hf
  refine ag_istore [(10, .int s0), (0, va_rf (some t)), (1, .ref (lo + 0)), (2, .ref (lo + 1)), (5, .int a5), (6, .int a6), (8, .int a8), (9, .int a9)] dL_isBoard_103 (by decide) rfl ?_
  refine ag_iload 7 dL_isBoard_105 rfl ?_
  refine ag_if_ne 119 dL_isBoard_107 (by decide) (fun c1 => ?_) (fun c1 => ?_)
  · rw [if_neg c1] at hf
    refine ag_lv [1, 2, 3, 4, 5, 6, 7, 0] rfl ?_
    exact wkL_isBoard_119 (Y := Y) (Y2 := Y2) hl hb hb0 _ hk51 hY _ _ _ _ _ _ _ hD ⟨show kc + (6 + Y) ≤ 310 by omega, show ks + (36 + Y2) ≤ 1860 by omega⟩ hf
  · rw [if_pos c1] at hf
    refine ag_iload 0 dL_isBoard_110 rfl ?_
    refine ag_if_ne 119 dL_isBoard_112 (by decide) (fun c2 => ?_) (fun c2 => ?_)
    · rw [if_neg c2] at hf
      refine ag_lv [1, 2, 3, 4, 5, 6, 7, 0] rfl ?_
      exact wkL_isBoard_119 (Y := Y) (Y2 := Y2) hl hb hb0 _ hk51 hY _ _ _ _ _ _ _ hD ⟨show kc + (6 + Y) ≤ 310 by omega, show ks + (36 + Y2) ≤ 1860 by omega⟩ hf
    · rw [if_pos c2] at hf
      refine ag_iconst (0 : Int32) dL_isBoard_115 (by decide) ?_
      refine ag_goto 160 dL_isBoard_116 (by decide) ?_
      refine ag_lv [1, 2, 3, 4, 5, 6, 7, 0] rfl ?_
      exact wkL_isBoard_160 (Y := Y) (Y2 := Y2) hl hb hb0 _ hk51 hY _ _ _ _ _ _ _ _ hD ⟨show kc + (6 + Y) ≤ 310 by omega, show ks + (36 + Y2) ≤ 1860 by omega⟩ hf
def gL_isBoard_82 (lo t Ls : Nat) (xs : Nat → Int32) (K : Int32 → TH → MS → Prop) (k51 : TH → MS → Int32 → Int32 → Int32 → Int32 → Prop) (h : TH) (L : MS) (a5 : Int32) (a6 : Int32) (a8 : Int32) (s0 : Int32) : Prop :=
  (xin a6 64 = true ∧ (if ((x_shr (m_J L 1 a6.toNatClampNeg) a8) &&& (1 : Int64)) = (1 : Int64) then gL_isBoard_103 lo t Ls xs K k51 h L a5 a6 a8 s0 (1 : Int32) else gL_isBoard_103 lo t Ls xs K k51 h L a5 a6 a8 s0 (0 : Int32)))
set_option maxHeartbeats 4000000 in
set_option maxRecDepth 100000 in
theorem wkL_isBoard_82 {l : Launch} {g : xG} {x0 : xV} {b lo t Ls : Nat} {xs : Nat → Int32} {K : Int32 → TH → MS → Prop} {kc ks : Nat} {Y Y2 : Nat} (hl : l.stackTraces = false) (hb : b + 8 < lo) (hb0 : b < x0.1 ∧ x0.2 b = none) (k51 : TH → MS → Int32 → Int32 → Int32 → Int32 → Prop) (hk51 : ∀ (kc ks : Nat) (h : TH) (L : MS) (a5 : Int32) (a6 : Int32) (a7 : Int32) (a8 : Int32), LDp lo h → (kc + Y ≤ 310 ∧ ks + Y2 ≤ 1860) → k51 h L a5 a6 a7 a8 → AWG (XS b Ls xs) (zR rmL_isBoard g lo x0 K) ML_isBoard rmL_isBoard l g x0 kc ks (LW g lo h L) 51 [(0, va_rf (some t)), (1, .ref (lo + 0)), (2, .ref (lo + 1)), (5, .int a5), (6, .int a6), (7, .int a7), (8, .int a8)] []) (hY : 0 ≤ Y ∧ 0 ≤ Y2) (h : TH) (L : MS) (a5 : Int32) (a6 : Int32) (a8 : Int32) (s0 : Int32) (hD : LDp lo h) (hc : kc + (6 + Y) ≤ 310 ∧ ks + (36 + Y2) ≤ 1860) (hf : gL_isBoard_82 lo t Ls xs K k51 h L a5 a6 a8 s0) : AWG (XS b Ls xs) (zR rmL_isBoard g lo x0 K) ML_isBoard rmL_isBoard l g x0 kc ks (LW g lo h L) 82 [(0, va_rf (some t)), (1, .ref (lo + 0)), (2, .ref (lo + 1)), (5, .int a5), (6, .int a6), (8, .int a8)] [.int s0] := by
  rw [gL_isBoard_82] at hf
  refine ag_istore [(9, .int s0), (0, va_rf (some t)), (1, .ref (lo + 0)), (2, .ref (lo + 1)), (5, .int a5), (6, .int a6), (8, .int a8)] dL_isBoard_82 (by decide) rfl ?_
  refine ag_aload_n 3 dL_isBoard_84 rfl ?_
  refine ag_iload 5 dL_isBoard_85 rfl ?_
  obtain ⟨hi1, hf⟩ := hf
  refine ar_lald 1 64 hD rfl (by decide) (xin_v hi1) dL_isBoard_87 ?_
  refine ag_iload 6 dL_isBoard_88 rfl ?_
  refine ag_lshr dL_isBoard_90 ?_
  refine ag_lconst (1 : Int64) dL_isBoard_91 (by decide) ?_
  refine ag_land dL_isBoard_92 ?_
  refine ag_lconst (1 : Int64) dL_isBoard_93 (by decide) ?_
  refine ag_lcmp_ne 102 dL_isBoard_94 dL_isBoard_95 (by decide) (fun c2 => ?_) (fun c2 => ?_)
  · rw [if_neg c2] at hf
    refine ag_iconst (0 : Int32) dL_isBoard_102 (by decide) ?_
    refine ag_lv [1, 2, 3, 4, 5, 6, 0] rfl ?_
    exact wkL_isBoard_103 (Y := Y) (Y2 := Y2) hl hb hb0 _ hk51 hY _ _ _ _ _ _ _ hD ⟨show kc + (6 + Y) ≤ 310 by omega, show ks + (36 + Y2) ≤ 1860 by omega⟩ hf
  · rw [if_pos c2] at hf
    refine ag_iconst (1 : Int32) dL_isBoard_98 (by decide) ?_
    refine ag_goto 103 dL_isBoard_99 (by decide) ?_
    refine ag_lv [1, 2, 3, 4, 5, 6, 0] rfl ?_
    exact wkL_isBoard_103 (Y := Y) (Y2 := Y2) hl hb hb0 _ hk51 hY _ _ _ _ _ _ _ hD ⟨show kc + (6 + Y) ≤ 310 by omega, show ks + (36 + Y2) ≤ 1860 by omega⟩ hf
def gL_isBoard_51 (lo t Ls : Nat) (xs : Nat → Int32) (K : Int32 → TH → MS → Prop) : Nat → TH → MS → Int32 → Int32 → Int32 → Int32 → Prop
  | 0, _, _, _, _, _, _ => False
  | n + 1, h, L, a5, a6, a7, a8 =>
    (if (49 : Int32) ≤ a8 then (∃ b2, a7 = bi b2 ∧ K a7 h L) else (if a7 = 0 then (∃ b4, a7 = bi b4 ∧ K a7 h L) else (xin a6 64 = true ∧ (if ((x_shr (m_J L 0 a6.toNatClampNeg) a8) &&& (1 : Int64)) = (1 : Int64) then gL_isBoard_82 lo t Ls xs K (gL_isBoard_51 lo t Ls xs K n) h L a5 a6 a8 (1 : Int32) else gL_isBoard_82 lo t Ls xs K (gL_isBoard_51 lo t Ls xs K n) h L a5 a6 a8 (0 : Int32)))))
set_option maxHeartbeats 4000000 in
set_option maxRecDepth 100000 in
theorem wkL_isBoard_51 {l : Launch} {g : xG} {x0 : xV} {b lo t Ls : Nat} {xs : Nat → Int32} {K : Int32 → TH → MS → Prop} (hl : l.stackTraces = false) (hb : b + 8 < lo) (hb0 : b < x0.1 ∧ x0.2 b = none) : ∀ (n kc ks : Nat) (h : TH) (L : MS) (a5 : Int32) (a6 : Int32) (a7 : Int32) (a8 : Int32), LDp lo h → (kc + (6 * n + 0) ≤ 310 ∧ ks + (36 * n + 0) ≤ 1860) → gL_isBoard_51 lo t Ls xs K n h L a5 a6 a7 a8 → AWG (XS b Ls xs) (zR rmL_isBoard g lo x0 K) ML_isBoard rmL_isBoard l g x0 kc ks (LW g lo h L) 51 [(0, va_rf (some t)), (1, .ref (lo + 0)), (2, .ref (lo + 1)), (5, .int a5), (6, .int a6), (7, .int a7), (8, .int a8)] [] := by
  intro n
  induction n with
  | zero => intro kc ks h L a5 a6 a7 a8 hD hc hf; exact absurd hf (by simp [gL_isBoard_51])
  | succ n hk51 =>
    intro kc ks h L a5 a6 a7 a8 hD hc hf
    rw [gL_isBoard_51] at hf
    refine ag_iload 6 dL_isBoard_51 rfl ?_
    refine ag_bipush (49 : Int32) dL_isBoard_53 (by decide) ?_
    refine ag_icmp_ge 234 dL_isBoard_55 (by decide) (fun c1 => ?_) (fun c1 => ?_)
    · rw [if_pos c1] at hf
      refine ag_iload 5 dL_isBoard_234 rfl ?_
      obtain ⟨b2, hb2, hf⟩ := hf
      exact agr_zret hD hf (by rw [hb2]; exact nar_b _) dL_isBoard_236 rfl ⟨show kc + 0 ≤ 310 by omega, show ks + 0 ≤ 1860 by omega⟩
    · rw [if_neg c1] at hf
      refine ag_iload 5 dL_isBoard_58 rfl ?_
      refine ag_if_eq 234 dL_isBoard_60 (by decide) (fun c3 => ?_) (fun c3 => ?_)
      · rw [if_pos c3] at hf
        refine ag_iload 5 dL_isBoard_234 rfl ?_
        obtain ⟨b4, hb4, hf⟩ := hf
        exact agr_zret hD hf (by rw [hb4]; exact nar_b _) dL_isBoard_236 rfl ⟨show kc + 0 ≤ 310 by omega, show ks + 0 ≤ 1860 by omega⟩
      · rw [if_neg c3] at hf
        refine ag_aload_n 1 dL_isBoard_63 rfl ?_
        refine ag_iload 4 dL_isBoard_64 rfl ?_
        obtain ⟨hi5, hf⟩ := hf
        refine ar_lald 0 64 hD rfl (by decide) (xin_v hi5) dL_isBoard_66 ?_
        refine ag_iload 6 dL_isBoard_67 rfl ?_
        refine ag_lshr dL_isBoard_69 ?_
        refine ag_lconst (1 : Int64) dL_isBoard_70 (by decide) ?_
        refine ag_land dL_isBoard_71 ?_
        refine ag_lconst (1 : Int64) dL_isBoard_72 (by decide) ?_
        refine ag_lcmp_ne 81 dL_isBoard_73 dL_isBoard_74 (by decide) (fun c6 => ?_) (fun c6 => ?_)
        · rw [if_neg c6] at hf
          refine ag_iconst (0 : Int32) dL_isBoard_81 (by decide) ?_
          refine ag_lv [0, 1, 2, 3, 4, 6] rfl ?_
          exact wkL_isBoard_82 (Y := 6 * n + 0) (Y2 := 36 * n + 0) hl hb hb0 _ hk51 ⟨by omega, by omega⟩ _ _ _ _ _ _ hD ⟨show kc + (6 + (6 * n + 0)) ≤ 310 by omega, show ks + (36 + (36 * n + 0)) ≤ 1860 by omega⟩ hf
        · rw [if_pos c6] at hf
          refine ag_iconst (1 : Int32) dL_isBoard_77 (by decide) ?_
          refine ag_goto 82 dL_isBoard_78 (by decide) ?_
          refine ag_lv [0, 1, 2, 3, 4, 6] rfl ?_
          exact wkL_isBoard_82 (Y := 6 * n + 0) (Y2 := 36 * n + 0) hl hb hb0 _ hk51 ⟨by omega, by omega⟩ _ _ _ _ _ _ hD ⟨show kc + (6 + (6 * n + 0)) ≤ 310 by omega, show ks + (36 + (36 * n + 0)) ≤ 1860 by omega⟩ hf
def gL_isBoard_46 (lo t Ls : Nat) (xs : Nat → Int32) (K : Int32 → TH → MS → Prop) (h : TH) (L : MS) (a5 : Int32) (a6 : Int32) (s0 : Int32) : Prop :=
  gL_isBoard_51 lo t Ls xs K 51 h L a5 a6 s0 (0 : Int32)
set_option maxHeartbeats 4000000 in
set_option maxRecDepth 100000 in
theorem wkL_isBoard_46 {l : Launch} {g : xG} {x0 : xV} {b lo t Ls : Nat} {xs : Nat → Int32} {K : Int32 → TH → MS → Prop} {kc ks : Nat} (hl : l.stackTraces = false) (hb : b + 8 < lo) (hb0 : b < x0.1 ∧ x0.2 b = none) (h : TH) (L : MS) (a5 : Int32) (a6 : Int32) (s0 : Int32) (hD : LDp lo h) (hc : kc + (306) ≤ 310 ∧ ks + (1836) ≤ 1860) (hf : gL_isBoard_46 lo t Ls xs K h L a5 a6 s0) : AWG (XS b Ls xs) (zR rmL_isBoard g lo x0 K) ML_isBoard rmL_isBoard l g x0 kc ks (LW g lo h L) 46 [(0, va_rf (some t)), (1, .ref (lo + 0)), (2, .ref (lo + 1)), (5, .int a5), (6, .int a6)] [.int s0] := by
  rw [gL_isBoard_46] at hf
  refine ag_istore [(7, .int s0), (0, va_rf (some t)), (1, .ref (lo + 0)), (2, .ref (lo + 1)), (5, .int a5), (6, .int a6)] dL_isBoard_46 (by decide) rfl ?_
  refine ag_iconst (0 : Int32) dL_isBoard_48 (by decide) ?_
  refine ag_istore [(8, .int (0 : Int32)), (7, .int s0), (0, va_rf (some t)), (1, .ref (lo + 0)), (2, .ref (lo + 1)), (5, .int a5), (6, .int a6)] dL_isBoard_49 (by decide) rfl ?_
  refine ag_lv [2, 3, 4, 5, 6, 1, 0] rfl ?_
  exact wkL_isBoard_51 hl hb hb0 51 _ _ _ _ _ _ _ _ hD ⟨show kc + (6 * 51 + 0) ≤ 310 by omega, show ks + (36 * 51 + 0) ≤ 1860 by omega⟩ hf
def gL_isBoard (lo t Ls : Nat) (xs : Nat → Int32) (K : Int32 → TH → MS → Prop) (h : TH) (L : MS) (a5 : Int32) : Prop :=
  (∃ q1, fL_latest L a5 = some q1 ∧ gL_asks lo t Ls xs (fun v3 h4 L5 => (if v3 = (-3000 : Int32) then gL_asks lo t Ls xs (fun v9 h10 L11 => (if v9 = (-3000 : Int32) then gL_isBoard_46 lo t Ls xs K h10 L11 a5 q1 (1 : Int32) else gL_isBoard_46 lo t Ls xs K h10 L11 a5 q1 (0 : Int32))) h4 L5 (7 : Int32) a5 (49 : Int32) else gL_isBoard_46 lo t Ls xs K h4 L5 a5 q1 (0 : Int32))) h L (6 : Int32) a5 (-1 : Int32))
set_option maxHeartbeats 4000000 in
set_option maxRecDepth 100000 in
theorem ctL_isBoard {l : Launch} {g : xG} {b lo t Ls : Nat} {xs : Nat → Int32} {K : Int32 → TH → MS → Prop} (hl : l.stackTraces = false) (hb : b + 8 < lo) (h : TH) (L : MS) (a5 : Int32) (hD : LDp lo h) (hf : gL_isBoard lo t Ls xs K h L a5) : RT yL_isBoard ML_isBoard rmL_isBoard l g lo b Ls xs [va_rf (some t), .ref (lo + 0), .ref (lo + 1), .ref (lo + 2), .ref (lo + 7), .int a5] (LW g lo h L) K := by
  rw [gL_isBoard] at hf
  refine RT.of (lv0 := [(0, va_rf (some t)), (1, .ref (lo + 0)), (2, .ref (lo + 1)), (3, .ref (lo + 2)), (4, .ref (lo + 7)), (5, .int a5)]) (by decide +kernel) rfl rfl (by simp [lg_sl, cat_q, cat_i, cat_l, cat_r]) (by simp [lv_args, cat_q, cat_i, cat_l, cat_r]) hl ?_
  have hb0 := LW_no (g := g) (L := L) hD hb
  have hc : 0 + 310 ≤ 310 ∧ 0 + 1860 ≤ 1860 := ⟨by omega, by omega⟩
  refine ag_aload_n 3 dL_isBoard_0 rfl ?_
  refine ag_aload 4 dL_isBoard_1 rfl ?_
  refine ag_iload 5 dL_isBoard_3 rfl ?_
  obtain ⟨q1, hq1, hf⟩ := hf
  refine ag_callS [.ref (lo + 2), .ref (lo + 7), .int a5] 3 (ctA hD (ctL_latest hl _ _ hq1)) ⟨wl4 (i := 34) rfl rfl, ciL_latest⟩ (wl4 (i := 35) rfl rfl) dL_isBoard_5 rfl rfl (Nat.le_of_ble_eq_true rfl) ⟨Nat.le_of_ble_eq_true rfl, Nat.le_of_ble_eq_true rfl⟩ ⟨show 0 + 0 + 0 ≤ 310 by omega, show 0 + 0 + 0 ≤ 1860 by omega⟩ (fun _ => ?_)
  refine ag_istore [(6, .int q1), (0, va_rf (some t)), (1, .ref (lo + 0)), (2, .ref (lo + 1)), (3, .ref (lo + 2)), (4, .ref (lo + 7)), (5, .int a5)] dL_isBoard_8 (by decide) rfl ?_
  refine ag_qload_n 1 dL_isBoard_10 rfl ?_
  refine ag_bipush (6 : Int32) dL_isBoard_11 (by decide) ?_
  refine ag_iload 6 dL_isBoard_13 rfl ?_
  refine ag_iconst (-1 : Int32) dL_isBoard_15 (by decide) ?_
  refine ag_callRH (fun s a c h => h.1) [va_rf (some t), .int (6 : Int32), .int a5, .int (-1 : Int32)] 4 (ctL_asks hl _ _ _ _ _ hD hf) ⟨wl3 (i := 198) rfl rfl, ciL_asks⟩ (wl3 (i := 199) rfl rfl) dL_isBoard_16 rfl rfl (Nat.le_of_ble_eq_true rfl) ⟨Nat.le_of_ble_eq_true rfl, Nat.le_of_ble_eq_true rfl⟩ ⟨show 0 + 0 + 2 ≤ 310 by omega, show 0 + 0 + 12 ≤ 1860 by omega⟩ (fun v3 h4 L5 hf hD6 => ?_)
  refine ag_sipush (-3000 : Int32) dL_isBoard_19 (by decide) ?_
  refine ag_icmp_ne 45 dL_isBoard_22 (by decide) (fun c7 => ?_) (fun c7 => ?_)
  · rw [if_neg c7] at hf
    refine ag_iconst (0 : Int32) dL_isBoard_45 (by decide) ?_
    refine ag_lv [1, 2, 3, 6, 0] rfl ?_
    exact wkL_isBoard_46 hl hb hb0 _ _ _ _ _ hD6 ⟨show 0 + 0 + 2 + (306) ≤ 310 by omega, show 0 + 0 + 12 + (1836) ≤ 1860 by omega⟩ hf
  · rw [if_pos c7] at hf
    refine ag_qload_n 1 dL_isBoard_25 rfl ?_
    refine ag_bipush (7 : Int32) dL_isBoard_26 (by decide) ?_
    refine ag_iload 6 dL_isBoard_28 rfl ?_
    refine ag_bipush (49 : Int32) dL_isBoard_30 (by decide) ?_
    refine ag_callRH (fun s a c h => h.1) [va_rf (some t), .int (7 : Int32), .int a5, .int (49 : Int32)] 4 (ctL_asks hl _ _ _ _ _ hD6 hf) ⟨wl3 (i := 198) rfl rfl, ciL_asks⟩ (wl3 (i := 199) rfl rfl) dL_isBoard_32 rfl rfl (Nat.le_of_ble_eq_true rfl) ⟨Nat.le_of_ble_eq_true rfl, Nat.le_of_ble_eq_true rfl⟩ ⟨show 0 + 0 + 2 + 2 ≤ 310 by omega, show 0 + 0 + 12 + 12 ≤ 1860 by omega⟩ (fun v9 h10 L11 hf hD12 => ?_)
    refine ag_sipush (-3000 : Int32) dL_isBoard_35 (by decide) ?_
    refine ag_icmp_ne 45 dL_isBoard_38 (by decide) (fun c13 => ?_) (fun c13 => ?_)
    · rw [if_neg c13] at hf
      refine ag_iconst (0 : Int32) dL_isBoard_45 (by decide) ?_
      refine ag_lv [1, 2, 3, 6, 0] rfl ?_
      exact wkL_isBoard_46 hl hb hb0 _ _ _ _ _ hD12 ⟨show 0 + 0 + 2 + 2 + (306) ≤ 310 by omega, show 0 + 0 + 12 + 12 + (1836) ≤ 1860 by omega⟩ hf
    · rw [if_pos c13] at hf
      refine ag_iconst (1 : Int32) dL_isBoard_41 (by decide) ?_
      refine ag_goto 46 dL_isBoard_42 (by decide) ?_
      refine ag_lv [1, 2, 3, 6, 0] rfl ?_
      exact wkL_isBoard_46 hl hb hb0 _ _ _ _ _ hD12 ⟨show 0 + 0 + 2 + 2 + (306) ≤ 310 by omega, show 0 + 0 + 12 + 12 + (1836) ≤ 1860 by omega⟩ hf
abbrev ML_areNodes : xM := (RL, cL_areNodes, 10, (some .boolean), "areNodes")
abbrev rmL_areNodes : Room := { frames := 9, cells := 66, slots := 396, locals := 159 }
theorem ciL_areNodes : Cond.code yL_areNodes cL_areNodes 10 (some .boolean) ∈ wt ∧ Cond.initialized yL_areNodes.cls ∈ wt ∧ (yL_areNodes.cls ≠ "java/lang/invoke/MethodHandle" ∧ yL_areNodes.cls ≠ "java/lang/invoke/VarHandle" ∧ (parseMethodDescriptor yL_areNodes.desc).map (fun d => d.parameters.length) = some 4) := ⟨wl4 (i := 67) rfl rfl, wl1 (i := 0) rfl rfl, by decide +kernel, by decide +kernel, by decide +kernel⟩
def gL_areNodes_210 (lo t Ls : Nat) (xs : Nat → Int32) (K : Int32 → TH → MS → Prop) (k40 : TH → MS → Int32 → Int32 → Prop) (h : TH) (L : MS) (a5 : Int32) (s0 : Int32) : Prop :=
  k40 h L s0 (a5 + (1 : Int32))
set_option maxHeartbeats 4000000 in
set_option maxRecDepth 100000 in
theorem wkL_areNodes_210 {l : Launch} {g : xG} {x0 : xV} {b lo t Ls : Nat} {xs : Nat → Int32} {K : Int32 → TH → MS → Prop} {kc ks : Nat} {Y Y2 : Nat} (hl : l.stackTraces = false) (hb : b + 8 < lo) (hb0 : b < x0.1 ∧ x0.2 b = none) (k40 : TH → MS → Int32 → Int32 → Prop) (hk40 : ∀ (kc ks : Nat) (h : TH) (L : MS) (a4 : Int32) (a5 : Int32), LDp lo h → (kc + Y ≤ 66 ∧ ks + Y2 ≤ 396) → k40 h L a4 a5 → AWG (XS b Ls xs) (zR rmL_areNodes g lo x0 K) ML_areNodes rmL_areNodes l g x0 kc ks (LW g lo h L) 40 [(0, va_rf (some t)), (1, .ref (lo + 8)), (2, .ref (lo + 9)), (3, .ref (lo + 7)), (4, .int a4), (5, .int a5)] []) (hY : 0 ≤ Y ∧ 0 ≤ Y2) (h : TH) (L : MS) (a5 : Int32) (s0 : Int32) (hD : LDp lo h) (hc : kc + (0 + Y) ≤ 66 ∧ ks + (0 + Y2) ≤ 396) (hf : gL_areNodes_210 lo t Ls xs K k40 h L a5 s0) : AWG (XS b Ls xs) (zR rmL_areNodes g lo x0 K) ML_areNodes rmL_areNodes l g x0 kc ks (LW g lo h L) 210 [(0, va_rf (some t)), (1, .ref (lo + 8)), (2, .ref (lo + 9)), (3, .ref (lo + 7)), (5, .int a5)] [.int s0] := by
  rw [gL_areNodes_210] at hf
  refine ag_istore [(4, .int s0), (0, va_rf (some t)), (1, .ref (lo + 8)), (2, .ref (lo + 9)), (3, .ref (lo + 7)), (5, .int a5)] dL_areNodes_210 (by decide) rfl ?_
  refine ag_iinc [(5, .int (a5 + (1 : Int32))), (4, .int s0), (0, va_rf (some t)), (1, .ref (lo + 8)), (2, .ref (lo + 9)), (3, .ref (lo + 7))] 5 dL_areNodes_212 rfl rfl (by decide) rfl ?_
  refine ag_goto 40 dL_areNodes_215 (by decide) ?_
  refine ag_lv [2, 3, 4, 5, 1, 0] rfl ?_
  exact hk40 _ _ _ _ _ _ hD ⟨show kc + Y ≤ 66 by omega, show ks + Y2 ≤ 396 by omega⟩ hf
def gL_areNodes_201 (lo t Ls : Nat) (xs : Nat → Int32) (K : Int32 → TH → MS → Prop) (k40 : TH → MS → Int32 → Int32 → Prop) (h : TH) (L : MS) (a5 : Int32) (s0 : Int32) (s1 : Int32) (s2 : Int32) : Prop :=
  (if s0 = (s1 + s2) then gL_areNodes_210 lo t Ls xs K k40 h L a5 (1 : Int32) else gL_areNodes_210 lo t Ls xs K k40 h L a5 (0 : Int32))
set_option maxHeartbeats 4000000 in
set_option maxRecDepth 100000 in
theorem wkL_areNodes_201 {l : Launch} {g : xG} {x0 : xV} {b lo t Ls : Nat} {xs : Nat → Int32} {K : Int32 → TH → MS → Prop} {kc ks : Nat} {Y Y2 : Nat} (hl : l.stackTraces = false) (hb : b + 8 < lo) (hb0 : b < x0.1 ∧ x0.2 b = none) (k40 : TH → MS → Int32 → Int32 → Prop) (hk40 : ∀ (kc ks : Nat) (h : TH) (L : MS) (a4 : Int32) (a5 : Int32), LDp lo h → (kc + Y ≤ 66 ∧ ks + Y2 ≤ 396) → k40 h L a4 a5 → AWG (XS b Ls xs) (zR rmL_areNodes g lo x0 K) ML_areNodes rmL_areNodes l g x0 kc ks (LW g lo h L) 40 [(0, va_rf (some t)), (1, .ref (lo + 8)), (2, .ref (lo + 9)), (3, .ref (lo + 7)), (4, .int a4), (5, .int a5)] []) (hY : 0 ≤ Y ∧ 0 ≤ Y2) (h : TH) (L : MS) (a5 : Int32) (s0 : Int32) (s1 : Int32) (s2 : Int32) (hD : LDp lo h) (hc : kc + (0 + Y) ≤ 66 ∧ ks + (0 + Y2) ≤ 396) (hf : gL_areNodes_201 lo t Ls xs K k40 h L a5 s0 s1 s2) : AWG (XS b Ls xs) (zR rmL_areNodes g lo x0 K) ML_areNodes rmL_areNodes l g x0 kc ks (LW g lo h L) 201 [(0, va_rf (some t)), (1, .ref (lo + 8)), (2, .ref (lo + 9)), (3, .ref (lo + 7)), (5, .int a5)] [.int s2, .int s1, .int s0] := by
  rw [gL_areNodes_201] at hf
  refine ag_iadd dL_areNodes_201 ?_
  refine ag_icmp_ne 209 dL_areNodes_202 (by decide) (fun c1 => ?_) (fun c1 => ?_)
  · rw [if_neg c1] at hf
    refine ag_iconst (0 : Int32) dL_areNodes_209 (by decide) ?_
    refine ag_lv [0, 1, 2, 3, 4] rfl ?_
    exact wkL_areNodes_210 (Y := Y) (Y2 := Y2) hl hb hb0 _ hk40 hY _ _ _ _ hD ⟨show kc + (0 + Y) ≤ 66 by omega, show ks + (0 + Y2) ≤ 396 by omega⟩ hf
  · rw [if_pos c1] at hf
    refine ag_iconst (1 : Int32) dL_areNodes_205 (by decide) ?_
    refine ag_goto 210 dL_areNodes_206 (by decide) ?_
    refine ag_lv [0, 1, 2, 3, 4] rfl ?_
    exact wkL_areNodes_210 (Y := Y) (Y2 := Y2) hl hb hb0 _ hk40 hY _ _ _ _ hD ⟨show kc + (0 + Y) ≤ 66 by omega, show ks + (0 + Y2) ≤ 396 by omega⟩ hf
def gL_areNodes_152 (lo t Ls : Nat) (xs : Nat → Int32) (K : Int32 → TH → MS → Prop) (k40 : TH → MS → Int32 → Int32 → Prop) (k109 : TH → MS → Int32 → Int32 → Int32 → Int32 → Int32 → Prop) (h : TH) (L : MS) (a5 : Int32) (a6 : Int32) (a7 : Int32) (a9 : Int32) (s0 : Int32) : Prop :=
  k109 h L a5 a6 a7 s0 (a9 / (4 : Int32))
set_option maxHeartbeats 4000000 in
set_option maxRecDepth 100000 in
theorem wkL_areNodes_152 {l : Launch} {g : xG} {x0 : xV} {b lo t Ls : Nat} {xs : Nat → Int32} {K : Int32 → TH → MS → Prop} {kc ks : Nat} {Y Y2 : Nat} (hl : l.stackTraces = false) (hb : b + 8 < lo) (hb0 : b < x0.1 ∧ x0.2 b = none) (k40 : TH → MS → Int32 → Int32 → Prop) (k109 : TH → MS → Int32 → Int32 → Int32 → Int32 → Int32 → Prop) (hk40 : ∀ (kc ks : Nat) (h : TH) (L : MS) (a4 : Int32) (a5 : Int32), LDp lo h → (kc + Y ≤ 66 ∧ ks + Y2 ≤ 396) → k40 h L a4 a5 → AWG (XS b Ls xs) (zR rmL_areNodes g lo x0 K) ML_areNodes rmL_areNodes l g x0 kc ks (LW g lo h L) 40 [(0, va_rf (some t)), (1, .ref (lo + 8)), (2, .ref (lo + 9)), (3, .ref (lo + 7)), (4, .int a4), (5, .int a5)] []) (hk109 : ∀ (kc ks : Nat) (h : TH) (L : MS) (a5 : Int32) (a6 : Int32) (a7 : Int32) (a8 : Int32) (a9 : Int32), LDp lo h → (kc + (1 + Y) ≤ 66 ∧ ks + (6 + Y2) ≤ 396) → k109 h L a5 a6 a7 a8 a9 → AWG (XS b Ls xs) (zR rmL_areNodes g lo x0 K) ML_areNodes rmL_areNodes l g x0 kc ks (LW g lo h L) 109 [(0, va_rf (some t)), (1, .ref (lo + 8)), (2, .ref (lo + 9)), (3, .ref (lo + 7)), (5, .int a5), (6, .int a6), (7, .int a7), (8, .int a8), (9, .int a9)] []) (hY : 0 ≤ Y ∧ 0 ≤ Y2) (h : TH) (L : MS) (a5 : Int32) (a6 : Int32) (a7 : Int32) (a9 : Int32) (s0 : Int32) (hD : LDp lo h) (hc : kc + (1 + Y) ≤ 66 ∧ ks + (6 + Y2) ≤ 396) (hf : gL_areNodes_152 lo t Ls xs K k40 k109 h L a5 a6 a7 a9 s0) : AWG (XS b Ls xs) (zR rmL_areNodes g lo x0 K) ML_areNodes rmL_areNodes l g x0 kc ks (LW g lo h L) 152 [(0, va_rf (some t)), (1, .ref (lo + 8)), (2, .ref (lo + 9)), (3, .ref (lo + 7)), (5, .int a5), (6, .int a6), (7, .int a7), (9, .int a9)] [.int s0] := by
  rw [gL_areNodes_152] at hf
  refine ag_istore [(8, .int s0), (0, va_rf (some t)), (1, .ref (lo + 8)), (2, .ref (lo + 9)), (3, .ref (lo + 7)), (5, .int a5), (6, .int a6), (7, .int a7), (9, .int a9)] dL_areNodes_152 (by decide) rfl ?_
  refine ag_iload 8 dL_areNodes_154 rfl ?_
  refine ag_iconst (4 : Int32) dL_areNodes_156 (by decide) ?_
  refine ag_idiv dL_areNodes_157 (by decide) ?_
  refine ag_istore [(9, .int (a9 / (4 : Int32))), (8, .int s0), (0, va_rf (some t)), (1, .ref (lo + 8)), (2, .ref (lo + 9)), (3, .ref (lo + 7)), (5, .int a5), (6, .int a6), (7, .int a7)] dL_areNodes_158 (by decide) rfl ?_
  refine ag_goto 109 dL_areNodes_160 (by decide) ?_
  refine ag_lv [2, 3, 4, 5, 6, 7, 8, 1, 0] rfl ?_
  exact hk109 _ _ _ _ _ _ _ _ _ hD ⟨show kc + (1 + Y) ≤ 66 by omega, show ks + (6 + Y2) ≤ 396 by omega⟩ hf
def gL_areNodes_132 (lo t Ls : Nat) (xs : Nat → Int32) (K : Int32 → TH → MS → Prop) (k40 : TH → MS → Int32 → Int32 → Prop) (k109 : TH → MS → Int32 → Int32 → Int32 → Int32 → Int32 → Prop) (h : TH) (L : MS) (a5 : Int32) (a6 : Int32) (a8 : Int32) (a9 : Int32) (s0 : Int32) : Prop :=
  (if a8 = 0 then (if (a9 - a9 / (4 : Int32) * (4 : Int32)) = (2 : Int32) then gL_areNodes_152 lo t Ls xs K k40 k109 h L a5 a6 s0 a9 (1 : Int32) else gL_areNodes_152 lo t Ls xs K k40 k109 h L a5 a6 s0 a9 (0 : Int32)) else gL_areNodes_152 lo t Ls xs K k40 k109 h L a5 a6 s0 a9 (1 : Int32))
set_option maxHeartbeats 4000000 in
set_option maxRecDepth 100000 in
theorem wkL_areNodes_132 {l : Launch} {g : xG} {x0 : xV} {b lo t Ls : Nat} {xs : Nat → Int32} {K : Int32 → TH → MS → Prop} {kc ks : Nat} {Y Y2 : Nat} (hl : l.stackTraces = false) (hb : b + 8 < lo) (hb0 : b < x0.1 ∧ x0.2 b = none) (k40 : TH → MS → Int32 → Int32 → Prop) (k109 : TH → MS → Int32 → Int32 → Int32 → Int32 → Int32 → Prop) (hk40 : ∀ (kc ks : Nat) (h : TH) (L : MS) (a4 : Int32) (a5 : Int32), LDp lo h → (kc + Y ≤ 66 ∧ ks + Y2 ≤ 396) → k40 h L a4 a5 → AWG (XS b Ls xs) (zR rmL_areNodes g lo x0 K) ML_areNodes rmL_areNodes l g x0 kc ks (LW g lo h L) 40 [(0, va_rf (some t)), (1, .ref (lo + 8)), (2, .ref (lo + 9)), (3, .ref (lo + 7)), (4, .int a4), (5, .int a5)] []) (hk109 : ∀ (kc ks : Nat) (h : TH) (L : MS) (a5 : Int32) (a6 : Int32) (a7 : Int32) (a8 : Int32) (a9 : Int32), LDp lo h → (kc + (1 + Y) ≤ 66 ∧ ks + (6 + Y2) ≤ 396) → k109 h L a5 a6 a7 a8 a9 → AWG (XS b Ls xs) (zR rmL_areNodes g lo x0 K) ML_areNodes rmL_areNodes l g x0 kc ks (LW g lo h L) 109 [(0, va_rf (some t)), (1, .ref (lo + 8)), (2, .ref (lo + 9)), (3, .ref (lo + 7)), (5, .int a5), (6, .int a6), (7, .int a7), (8, .int a8), (9, .int a9)] []) (hY : 0 ≤ Y ∧ 0 ≤ Y2) (h : TH) (L : MS) (a5 : Int32) (a6 : Int32) (a8 : Int32) (a9 : Int32) (s0 : Int32) (hD : LDp lo h) (hc : kc + (1 + Y) ≤ 66 ∧ ks + (6 + Y2) ≤ 396) (hf : gL_areNodes_132 lo t Ls xs K k40 k109 h L a5 a6 a8 a9 s0) : AWG (XS b Ls xs) (zR rmL_areNodes g lo x0 K) ML_areNodes rmL_areNodes l g x0 kc ks (LW g lo h L) 132 [(0, va_rf (some t)), (1, .ref (lo + 8)), (2, .ref (lo + 9)), (3, .ref (lo + 7)), (5, .int a5), (6, .int a6), (8, .int a8), (9, .int a9)] [.int s0] := by
  rw [gL_areNodes_132] at hf
  refine ag_istore [(7, .int s0), (0, va_rf (some t)), (1, .ref (lo + 8)), (2, .ref (lo + 9)), (3, .ref (lo + 7)), (5, .int a5), (6, .int a6), (8, .int a8), (9, .int a9)] dL_areNodes_132 (by decide) rfl ?_
  refine ag_iload 7 dL_areNodes_134 rfl ?_
  refine ag_if_ne 147 dL_areNodes_136 (by decide) (fun c1 => ?_) (fun c1 => ?_)
  · rw [if_neg c1] at hf
    refine ag_iconst (1 : Int32) dL_areNodes_147 (by decide) ?_
    refine ag_goto 152 dL_areNodes_148 (by decide) ?_
    refine ag_lv [1, 2, 3, 4, 5, 6, 0, 8] rfl ?_
    exact wkL_areNodes_152 (Y := Y) (Y2 := Y2) hl hb hb0 _ _ hk40 hk109 hY _ _ _ _ _ _ _ hD ⟨show kc + (1 + Y) ≤ 66 by omega, show ks + (6 + Y2) ≤ 396 by omega⟩ hf
  · rw [if_pos c1] at hf
    refine ag_iload 8 dL_areNodes_139 rfl ?_
    refine ag_iconst (4 : Int32) dL_areNodes_141 (by decide) ?_
    refine ag_irem dL_areNodes_142 (by decide) ?_
    refine ag_iconst (2 : Int32) dL_areNodes_143 (by decide) ?_
    refine ag_icmp_ne 151 dL_areNodes_144 (by decide) (fun c2 => ?_) (fun c2 => ?_)
    · rw [if_neg c2] at hf
      refine ag_iconst (0 : Int32) dL_areNodes_151 (by decide) ?_
      refine ag_lv [1, 2, 3, 4, 5, 6, 0, 8] rfl ?_
      exact wkL_areNodes_152 (Y := Y) (Y2 := Y2) hl hb hb0 _ _ hk40 hk109 hY _ _ _ _ _ _ _ hD ⟨show kc + (1 + Y) ≤ 66 by omega, show ks + (6 + Y2) ≤ 396 by omega⟩ hf
    · rw [if_pos c2] at hf
      refine ag_iconst (1 : Int32) dL_areNodes_147 (by decide) ?_
      refine ag_goto 152 dL_areNodes_148 (by decide) ?_
      refine ag_lv [1, 2, 3, 4, 5, 6, 0, 8] rfl ?_
      exact wkL_areNodes_152 (Y := Y) (Y2 := Y2) hl hb hb0 _ _ hk40 hk109 hY _ _ _ _ _ _ _ hD ⟨show kc + (1 + Y) ≤ 66 by omega, show ks + (6 + Y2) ≤ 396 by omega⟩ hf
def gL_areNodes_109 (lo t Ls : Nat) (xs : Nat → Int32) (K : Int32 → TH → MS → Prop) (k40 : TH → MS → Int32 → Int32 → Prop) : Nat → TH → MS → Int32 → Int32 → Int32 → Int32 → Int32 → Prop
  | 0, _, _, _, _, _, _, _ => False
  | n + 1, h, L, a5, a6, a7, a8, a9 =>
    (if a9 ≤ 0 then (t_kd h t = 7 ∧ ∃ v4 h5, fX8_node h t a5 = some (.inl (v4, h5)) ∧ LDp lo h5 ∧ (xin a5 60 = true ∧ (if a7 = 0 then gL_areNodes_201 lo t Ls xs K k40 h5 L a5 v4 (((1000 : Int32) * a6) + ((10 : Int32) * ((m_I L 8 a5.toNatClampNeg) / (64 : Int32)))) (0 : Int32) else (if a8 = 0 then gL_areNodes_201 lo t Ls xs K k40 h5 L a5 v4 (((1000 : Int32) * a6) + ((10 : Int32) * ((m_I L 8 a5.toNatClampNeg) / (64 : Int32)))) (0 : Int32) else gL_areNodes_201 lo t Ls xs K k40 h5 L a5 v4 (((1000 : Int32) * a6) + ((10 : Int32) * ((m_I L 8 a5.toNatClampNeg) / (64 : Int32)))) (1 : Int32))))) else (if a7 = 0 then (if (a9 - a9 / (4 : Int32) * (4 : Int32)) = (1 : Int32) then gL_areNodes_132 lo t Ls xs K k40 (gL_areNodes_109 lo t Ls xs K k40 n) h L a5 a6 a8 a9 (1 : Int32) else gL_areNodes_132 lo t Ls xs K k40 (gL_areNodes_109 lo t Ls xs K k40 n) h L a5 a6 a8 a9 (0 : Int32)) else gL_areNodes_132 lo t Ls xs K k40 (gL_areNodes_109 lo t Ls xs K k40 n) h L a5 a6 a8 a9 (1 : Int32)))
set_option maxHeartbeats 4000000 in
set_option maxRecDepth 100000 in
theorem wkL_areNodes_109 {l : Launch} {g : xG} {x0 : xV} {b lo t Ls : Nat} {xs : Nat → Int32} {K : Int32 → TH → MS → Prop} {Y Y2 : Nat} (hl : l.stackTraces = false) (hb : b + 8 < lo) (hb0 : b < x0.1 ∧ x0.2 b = none) (k40 : TH → MS → Int32 → Int32 → Prop) (hk40 : ∀ (kc ks : Nat) (h : TH) (L : MS) (a4 : Int32) (a5 : Int32), LDp lo h → (kc + Y ≤ 66 ∧ ks + Y2 ≤ 396) → k40 h L a4 a5 → AWG (XS b Ls xs) (zR rmL_areNodes g lo x0 K) ML_areNodes rmL_areNodes l g x0 kc ks (LW g lo h L) 40 [(0, va_rf (some t)), (1, .ref (lo + 8)), (2, .ref (lo + 9)), (3, .ref (lo + 7)), (4, .int a4), (5, .int a5)] []) (hY : 0 ≤ Y ∧ 0 ≤ Y2) : ∀ (n kc ks : Nat) (h : TH) (L : MS) (a5 : Int32) (a6 : Int32) (a7 : Int32) (a8 : Int32) (a9 : Int32), LDp lo h → (kc + (1 + Y) ≤ 66 ∧ ks + (6 + Y2) ≤ 396) → gL_areNodes_109 lo t Ls xs K k40 n h L a5 a6 a7 a8 a9 → AWG (XS b Ls xs) (zR rmL_areNodes g lo x0 K) ML_areNodes rmL_areNodes l g x0 kc ks (LW g lo h L) 109 [(0, va_rf (some t)), (1, .ref (lo + 8)), (2, .ref (lo + 9)), (3, .ref (lo + 7)), (5, .int a5), (6, .int a6), (7, .int a7), (8, .int a8), (9, .int a9)] [] := by
  intro n
  induction n with
  | zero => intro kc ks h L a5 a6 a7 a8 a9 hD hc hf; exact absurd hf (by simp [gL_areNodes_109])
  | succ n hk109 =>
    intro kc ks h L a5 a6 a7 a8 a9 hD hc hf
    rw [gL_areNodes_109] at hf
    refine ag_iload 8 dL_areNodes_109 rfl ?_
    refine ag_if_le 163 dL_areNodes_111 (by decide) (fun c1 => ?_) (fun c1 => ?_)
    · rw [if_pos c1] at hf
      refine ag_qload_n 0 dL_areNodes_163 rfl ?_
      refine ag_iload 4 dL_areNodes_164 rfl ?_
      obtain ⟨hk_2, v4, h5, q3, hD6, hf⟩ := hf
      refine ag_callV 6 (some t) [.int a5] 1 rfl (LW_ob hk_2) rfl rfl (ctC hD (ctX8_node hl h _ _ q3)) ⟨wl4 (i := 22) rfl rfl, ciX8_node.1, ciX8_node.2.1, ciX8_node.2.2⟩ (wl4 (i := 23) rfl rfl) (wl4 (i := 24) rfl rfl) dL_areNodes_166 rfl rfl (Nat.le_of_ble_eq_true rfl) ⟨Nat.le_of_ble_eq_true rfl, Nat.le_of_ble_eq_true rfl⟩ ⟨show kc + 1 ≤ 66 by omega, show ks + 6 ≤ 396 by omega⟩ (fun _ => ?_)
      refine ag_sipush (1000 : Int32) dL_areNodes_169 (by decide) ?_
      refine ag_iload 5 dL_areNodes_172 rfl ?_
      refine ag_imul dL_areNodes_174 ?_
      refine ag_bipush (10 : Int32) dL_areNodes_175 (by decide) ?_
      refine ag_aload_n 1 dL_areNodes_177 rfl ?_
      refine ag_iload 4 dL_areNodes_178 rfl ?_
      obtain ⟨hi7, hf⟩ := hf
      refine ar_iald 8 60 hD6 rfl (by decide) (xin_v hi7) dL_areNodes_180 ?_
      refine ag_bipush (64 : Int32) dL_areNodes_181 (by decide) ?_
      refine ag_idiv dL_areNodes_183 (by decide) ?_
      refine ag_imul dL_areNodes_184 ?_
      refine ag_iadd dL_areNodes_185 ?_
      refine ag_iload 6 dL_areNodes_186 rfl ?_
      refine ag_if_eq 200 dL_areNodes_188 (by decide) (fun c8 => ?_) (fun c8 => ?_)
      · rw [if_pos c8] at hf
        refine ag_iconst (0 : Int32) dL_areNodes_200 (by decide) ?_
        refine ag_lv [0, 1, 2, 3, 4] rfl ?_
        exact wkL_areNodes_201 (Y := Y) (Y2 := Y2) hl hb hb0 _ hk40 hY _ _ _ _ _ _ hD6 ⟨show kc + 1 + (0 + Y) ≤ 66 by omega, show ks + 6 + (0 + Y2) ≤ 396 by omega⟩ hf
      · rw [if_neg c8] at hf
        refine ag_iload 7 dL_areNodes_191 rfl ?_
        refine ag_if_eq 200 dL_areNodes_193 (by decide) (fun c9 => ?_) (fun c9 => ?_)
        · rw [if_pos c9] at hf
          refine ag_iconst (0 : Int32) dL_areNodes_200 (by decide) ?_
          refine ag_lv [0, 1, 2, 3, 4] rfl ?_
          exact wkL_areNodes_201 (Y := Y) (Y2 := Y2) hl hb hb0 _ hk40 hY _ _ _ _ _ _ hD6 ⟨show kc + 1 + (0 + Y) ≤ 66 by omega, show ks + 6 + (0 + Y2) ≤ 396 by omega⟩ hf
        · rw [if_neg c9] at hf
          refine ag_iconst (1 : Int32) dL_areNodes_196 (by decide) ?_
          refine ag_goto 201 dL_areNodes_197 (by decide) ?_
          refine ag_lv [0, 1, 2, 3, 4] rfl ?_
          exact wkL_areNodes_201 (Y := Y) (Y2 := Y2) hl hb hb0 _ hk40 hY _ _ _ _ _ _ hD6 ⟨show kc + 1 + (0 + Y) ≤ 66 by omega, show ks + 6 + (0 + Y2) ≤ 396 by omega⟩ hf
    · rw [if_neg c1] at hf
      refine ag_iload 6 dL_areNodes_114 rfl ?_
      refine ag_if_ne 127 dL_areNodes_116 (by decide) (fun c10 => ?_) (fun c10 => ?_)
      · rw [if_neg c10] at hf
        refine ag_iconst (1 : Int32) dL_areNodes_127 (by decide) ?_
        refine ag_goto 132 dL_areNodes_128 (by decide) ?_
        refine ag_lv [0, 1, 2, 3, 4, 5, 7, 8] rfl ?_
        exact wkL_areNodes_132 (Y := Y) (Y2 := Y2) hl hb hb0 _ _ hk40 hk109 hY _ _ _ _ _ _ _ hD ⟨show kc + (1 + Y) ≤ 66 by omega, show ks + (6 + Y2) ≤ 396 by omega⟩ hf
      · rw [if_pos c10] at hf
        refine ag_iload 8 dL_areNodes_119 rfl ?_
        refine ag_iconst (4 : Int32) dL_areNodes_121 (by decide) ?_
        refine ag_irem dL_areNodes_122 (by decide) ?_
        refine ag_iconst (1 : Int32) dL_areNodes_123 (by decide) ?_
        refine ag_icmp_ne 131 dL_areNodes_124 (by decide) (fun c11 => ?_) (fun c11 => ?_)
        · rw [if_neg c11] at hf
          refine ag_iconst (0 : Int32) dL_areNodes_131 (by decide) ?_
          refine ag_lv [0, 1, 2, 3, 4, 5, 7, 8] rfl ?_
          exact wkL_areNodes_132 (Y := Y) (Y2 := Y2) hl hb hb0 _ _ hk40 hk109 hY _ _ _ _ _ _ _ hD ⟨show kc + (1 + Y) ≤ 66 by omega, show ks + (6 + Y2) ≤ 396 by omega⟩ hf
        · rw [if_pos c11] at hf
          refine ag_iconst (1 : Int32) dL_areNodes_127 (by decide) ?_
          refine ag_goto 132 dL_areNodes_128 (by decide) ?_
          refine ag_lv [0, 1, 2, 3, 4, 5, 7, 8] rfl ?_
          exact wkL_areNodes_132 (Y := Y) (Y2 := Y2) hl hb hb0 _ _ hk40 hk109 hY _ _ _ _ _ _ _ hD ⟨show kc + (1 + Y) ≤ 66 by omega, show ks + (6 + Y2) ≤ 396 by omega⟩ hf
def gL_areNodes_88 (lo t Ls : Nat) (xs : Nat → Int32) (K : Int32 → TH → MS → Prop) (k40 : TH → MS → Int32 → Int32 → Prop) (k59 : TH → MS → Int32 → Int32 → Int32 → Prop) (h : TH) (L : MS) (a5 : Int32) (a7 : Int32) (s0 : Int32) (s1 : Int32) : Prop :=
  k59 h L a5 (s0 + s1) (a7 + (1 : Int32))
set_option maxHeartbeats 4000000 in
set_option maxRecDepth 100000 in
theorem wkL_areNodes_88 {l : Launch} {g : xG} {x0 : xV} {b lo t Ls : Nat} {xs : Nat → Int32} {K : Int32 → TH → MS → Prop} {kc ks : Nat} {Y Y2 : Nat} (hl : l.stackTraces = false) (hb : b + 8 < lo) (hb0 : b < x0.1 ∧ x0.2 b = none) (k40 : TH → MS → Int32 → Int32 → Prop) (k59 : TH → MS → Int32 → Int32 → Int32 → Prop) (hk40 : ∀ (kc ks : Nat) (h : TH) (L : MS) (a4 : Int32) (a5 : Int32), LDp lo h → (kc + Y ≤ 66 ∧ ks + Y2 ≤ 396) → k40 h L a4 a5 → AWG (XS b Ls xs) (zR rmL_areNodes g lo x0 K) ML_areNodes rmL_areNodes l g x0 kc ks (LW g lo h L) 40 [(0, va_rf (some t)), (1, .ref (lo + 8)), (2, .ref (lo + 9)), (3, .ref (lo + 7)), (4, .int a4), (5, .int a5)] []) (hk59 : ∀ (kc ks : Nat) (h : TH) (L : MS) (a5 : Int32) (a6 : Int32) (a7 : Int32), LDp lo h → (kc + (1 + Y) ≤ 66 ∧ ks + (6 + Y2) ≤ 396) → k59 h L a5 a6 a7 → AWG (XS b Ls xs) (zR rmL_areNodes g lo x0 K) ML_areNodes rmL_areNodes l g x0 kc ks (LW g lo h L) 59 [(0, va_rf (some t)), (1, .ref (lo + 8)), (2, .ref (lo + 9)), (3, .ref (lo + 7)), (5, .int a5), (6, .int a6), (7, .int a7)] []) (hY : 0 ≤ Y ∧ 0 ≤ Y2) (h : TH) (L : MS) (a5 : Int32) (a7 : Int32) (s0 : Int32) (s1 : Int32) (hD : LDp lo h) (hc : kc + (1 + Y) ≤ 66 ∧ ks + (6 + Y2) ≤ 396) (hf : gL_areNodes_88 lo t Ls xs K k40 k59 h L a5 a7 s0 s1) : AWG (XS b Ls xs) (zR rmL_areNodes g lo x0 K) ML_areNodes rmL_areNodes l g x0 kc ks (LW g lo h L) 88 [(0, va_rf (some t)), (1, .ref (lo + 8)), (2, .ref (lo + 9)), (3, .ref (lo + 7)), (5, .int a5), (7, .int a7)] [.int s1, .int s0] := by
  rw [gL_areNodes_88] at hf
  refine ag_iadd dL_areNodes_88 ?_
  refine ag_istore [(6, .int (s0 + s1)), (0, va_rf (some t)), (1, .ref (lo + 8)), (2, .ref (lo + 9)), (3, .ref (lo + 7)), (5, .int a5), (7, .int a7)] dL_areNodes_89 (by decide) rfl ?_
  refine ag_iinc [(7, .int (a7 + (1 : Int32))), (6, .int (s0 + s1)), (0, va_rf (some t)), (1, .ref (lo + 8)), (2, .ref (lo + 9)), (3, .ref (lo + 7)), (5, .int a5)] 6 dL_areNodes_91 rfl rfl (by decide) rfl ?_
  refine ag_goto 59 dL_areNodes_94 (by decide) ?_
  refine ag_lv [2, 3, 4, 5, 6, 1, 0] rfl ?_
  exact hk59 _ _ _ _ _ _ _ hD ⟨show kc + (1 + Y) ≤ 66 by omega, show ks + (6 + Y2) ≤ 396 by omega⟩ hf
def gL_areNodes_59 (lo t Ls : Nat) (xs : Nat → Int32) (K : Int32 → TH → MS → Prop) (k40 : TH → MS → Int32 → Int32 → Prop) : Nat → TH → MS → Int32 → Int32 → Int32 → Prop
  | 0, _, _, _, _, _ => False
  | n + 1, h, L, a5, a6, a7 =>
    (if (m_I L 7 (4 : Int32).toNatClampNeg) ≤ a7 then (xin a5 60 = true ∧ gL_areNodes_109 lo t Ls xs K k40 FU h L a5 a6 (0 : Int32) (0 : Int32) (m_I L 9 a5.toNatClampNeg)) else (xin a7 60 = true ∧ (if ((m_I L 8 a7.toNatClampNeg) - (m_I L 8 a7.toNatClampNeg) / (64 : Int32) * (64 : Int32)) = (a5 + (1 : Int32)) then gL_areNodes_88 lo t Ls xs K k40 (gL_areNodes_59 lo t Ls xs K k40 n) h L a5 a7 a6 (1 : Int32) else gL_areNodes_88 lo t Ls xs K k40 (gL_areNodes_59 lo t Ls xs K k40 n) h L a5 a7 a6 (0 : Int32))))
set_option maxHeartbeats 4000000 in
set_option maxRecDepth 100000 in
theorem wkL_areNodes_59 {l : Launch} {g : xG} {x0 : xV} {b lo t Ls : Nat} {xs : Nat → Int32} {K : Int32 → TH → MS → Prop} {Y Y2 : Nat} (hl : l.stackTraces = false) (hb : b + 8 < lo) (hb0 : b < x0.1 ∧ x0.2 b = none) (k40 : TH → MS → Int32 → Int32 → Prop) (hk40 : ∀ (kc ks : Nat) (h : TH) (L : MS) (a4 : Int32) (a5 : Int32), LDp lo h → (kc + Y ≤ 66 ∧ ks + Y2 ≤ 396) → k40 h L a4 a5 → AWG (XS b Ls xs) (zR rmL_areNodes g lo x0 K) ML_areNodes rmL_areNodes l g x0 kc ks (LW g lo h L) 40 [(0, va_rf (some t)), (1, .ref (lo + 8)), (2, .ref (lo + 9)), (3, .ref (lo + 7)), (4, .int a4), (5, .int a5)] []) (hY : 0 ≤ Y ∧ 0 ≤ Y2) : ∀ (n kc ks : Nat) (h : TH) (L : MS) (a5 : Int32) (a6 : Int32) (a7 : Int32), LDp lo h → (kc + (1 + Y) ≤ 66 ∧ ks + (6 + Y2) ≤ 396) → gL_areNodes_59 lo t Ls xs K k40 n h L a5 a6 a7 → AWG (XS b Ls xs) (zR rmL_areNodes g lo x0 K) ML_areNodes rmL_areNodes l g x0 kc ks (LW g lo h L) 59 [(0, va_rf (some t)), (1, .ref (lo + 8)), (2, .ref (lo + 9)), (3, .ref (lo + 7)), (5, .int a5), (6, .int a6), (7, .int a7)] [] := by
  intro n
  induction n with
  | zero => intro kc ks h L a5 a6 a7 hD hc hf; exact absurd hf (by simp [gL_areNodes_59])
  | succ n hk59 =>
    intro kc ks h L a5 a6 a7 hD hc hf
    rw [gL_areNodes_59] at hf
    refine ag_iload 6 dL_areNodes_59 rfl ?_
    refine ag_aload_n 3 dL_areNodes_61 rfl ?_
    refine ag_iconst (4 : Int32) dL_areNodes_62 (by decide) ?_
    refine ar_iald 7 5 hD rfl (by decide) (xin_v (by decide)) dL_areNodes_63 ?_
    refine ag_icmp_ge 97 dL_areNodes_64 (by decide) (fun c1 => ?_) (fun c1 => ?_)
    · rw [if_pos c1] at hf
      refine ag_iconst (0 : Int32) dL_areNodes_97 (by decide) ?_
      refine ag_istore [(7, .int (0 : Int32)), (0, va_rf (some t)), (1, .ref (lo + 8)), (2, .ref (lo + 9)), (3, .ref (lo + 7)), (5, .int a5), (6, .int a6)] dL_areNodes_98 (by decide) rfl ?_
      refine ag_iconst (0 : Int32) dL_areNodes_100 (by decide) ?_
      refine ag_istore [(8, .int (0 : Int32)), (7, .int (0 : Int32)), (0, va_rf (some t)), (1, .ref (lo + 8)), (2, .ref (lo + 9)), (3, .ref (lo + 7)), (5, .int a5), (6, .int a6)] dL_areNodes_101 (by decide) rfl ?_
      refine ag_aload_n 4 dL_areNodes_103 rfl ?_
      refine ag_iload 6 dL_areNodes_104 rfl ?_
      obtain ⟨hi2, hf⟩ := hf
      refine ar_iald 9 60 hD rfl (by decide) (xin_v hi2) dL_areNodes_106 ?_
      refine ag_istore [(9, .int (m_I L 9 a5.toNatClampNeg)), (8, .int (0 : Int32)), (7, .int (0 : Int32)), (0, va_rf (some t)), (1, .ref (lo + 8)), (2, .ref (lo + 9)), (3, .ref (lo + 7)), (5, .int a5), (6, .int a6)] dL_areNodes_107 (by decide) rfl ?_
      refine ag_lv [3, 4, 5, 6, 7, 8, 2, 1, 0] rfl ?_
      exact wkL_areNodes_109 (Y := Y) (Y2 := Y2) hl hb hb0 _ hk40 hY _ _ _ _ _ _ _ _ _ _ hD ⟨show kc + (1 + Y) ≤ 66 by omega, show ks + (6 + Y2) ≤ 396 by omega⟩ hf
    · rw [if_neg c1] at hf
      refine ag_iload 5 dL_areNodes_67 rfl ?_
      refine ag_aload_n 1 dL_areNodes_69 rfl ?_
      refine ag_iload 6 dL_areNodes_70 rfl ?_
      obtain ⟨hi3, hf⟩ := hf
      refine ar_iald 8 60 hD rfl (by decide) (xin_v hi3) dL_areNodes_72 ?_
      refine ag_bipush (64 : Int32) dL_areNodes_73 (by decide) ?_
      refine ag_irem dL_areNodes_75 (by decide) ?_
      refine ag_iload 4 dL_areNodes_76 rfl ?_
      refine ag_iconst (1 : Int32) dL_areNodes_78 (by decide) ?_
      refine ag_iadd dL_areNodes_79 ?_
      refine ag_icmp_ne 87 dL_areNodes_80 (by decide) (fun c4 => ?_) (fun c4 => ?_)
      · rw [if_neg c4] at hf
        refine ag_iconst (0 : Int32) dL_areNodes_87 (by decide) ?_
        refine ag_lv [0, 1, 2, 3, 4, 6] rfl ?_
        exact wkL_areNodes_88 (Y := Y) (Y2 := Y2) hl hb hb0 _ _ hk40 hk59 hY _ _ _ _ _ _ hD ⟨show kc + (1 + Y) ≤ 66 by omega, show ks + (6 + Y2) ≤ 396 by omega⟩ hf
      · rw [if_pos c4] at hf
        refine ag_iconst (1 : Int32) dL_areNodes_83 (by decide) ?_
        refine ag_goto 88 dL_areNodes_84 (by decide) ?_
        refine ag_lv [0, 1, 2, 3, 4, 6] rfl ?_
        exact wkL_areNodes_88 (Y := Y) (Y2 := Y2) hl hb hb0 _ _ hk40 hk59 hY _ _ _ _ _ _ hD ⟨show kc + (1 + Y) ≤ 66 by omega, show ks + (6 + Y2) ≤ 396 by omega⟩ hf
def gL_areNodes_40 (lo t Ls : Nat) (xs : Nat → Int32) (K : Int32 → TH → MS → Prop) : Nat → TH → MS → Int32 → Int32 → Prop
  | 0, _, _, _, _ => False
  | n + 1, h, L, a4, a5 =>
    (if (m_I L 7 (4 : Int32).toNatClampNeg) ≤ a5 then (∃ b2, a4 = bi b2 ∧ K a4 h L) else (if a4 = 0 then (∃ b4, a4 = bi b4 ∧ K a4 h L) else gL_areNodes_59 lo t Ls xs K (gL_areNodes_40 lo t Ls xs K n) FU h L a5 (0 : Int32) (0 : Int32)))
set_option maxHeartbeats 4000000 in
set_option maxRecDepth 100000 in
theorem wkL_areNodes_40 {l : Launch} {g : xG} {x0 : xV} {b lo t Ls : Nat} {xs : Nat → Int32} {K : Int32 → TH → MS → Prop} (hl : l.stackTraces = false) (hb : b + 8 < lo) (hb0 : b < x0.1 ∧ x0.2 b = none) : ∀ (n kc ks : Nat) (h : TH) (L : MS) (a4 : Int32) (a5 : Int32), LDp lo h → (kc + (1 * n + 0) ≤ 66 ∧ ks + (6 * n + 0) ≤ 396) → gL_areNodes_40 lo t Ls xs K n h L a4 a5 → AWG (XS b Ls xs) (zR rmL_areNodes g lo x0 K) ML_areNodes rmL_areNodes l g x0 kc ks (LW g lo h L) 40 [(0, va_rf (some t)), (1, .ref (lo + 8)), (2, .ref (lo + 9)), (3, .ref (lo + 7)), (4, .int a4), (5, .int a5)] [] := by
  intro n
  induction n with
  | zero => intro kc ks h L a4 a5 hD hc hf; exact absurd hf (by simp [gL_areNodes_40])
  | succ n hk40 =>
    intro kc ks h L a4 a5 hD hc hf
    rw [gL_areNodes_40] at hf
    refine ag_iload 5 dL_areNodes_40 rfl ?_
    refine ag_aload_n 3 dL_areNodes_42 rfl ?_
    refine ag_iconst (4 : Int32) dL_areNodes_43 (by decide) ?_
    refine ar_iald 7 5 hD rfl (by decide) (xin_v (by decide)) dL_areNodes_44 ?_
    refine ag_icmp_ge 218 dL_areNodes_45 (by decide) (fun c1 => ?_) (fun c1 => ?_)
    · rw [if_pos c1] at hf
      refine ag_iload 4 dL_areNodes_218 rfl ?_
      obtain ⟨b2, hb2, hf⟩ := hf
      exact agr_zret hD hf (by rw [hb2]; exact nar_b _) dL_areNodes_220 rfl ⟨show kc + 0 ≤ 66 by omega, show ks + 0 ≤ 396 by omega⟩
    · rw [if_neg c1] at hf
      refine ag_iload 4 dL_areNodes_48 rfl ?_
      refine ag_if_eq 218 dL_areNodes_50 (by decide) (fun c3 => ?_) (fun c3 => ?_)
      · rw [if_pos c3] at hf
        refine ag_iload 4 dL_areNodes_218 rfl ?_
        obtain ⟨b4, hb4, hf⟩ := hf
        exact agr_zret hD hf (by rw [hb4]; exact nar_b _) dL_areNodes_220 rfl ⟨show kc + 0 ≤ 66 by omega, show ks + 0 ≤ 396 by omega⟩
      · rw [if_neg c3] at hf
        refine ag_iconst (0 : Int32) dL_areNodes_53 (by decide) ?_
        refine ag_istore [(6, .int (0 : Int32)), (0, va_rf (some t)), (1, .ref (lo + 8)), (2, .ref (lo + 9)), (3, .ref (lo + 7)), (4, .int a4), (5, .int a5)] dL_areNodes_54 (by decide) rfl ?_
        refine ag_iconst (0 : Int32) dL_areNodes_56 (by decide) ?_
        refine ag_istore [(7, .int (0 : Int32)), (6, .int (0 : Int32)), (0, va_rf (some t)), (1, .ref (lo + 8)), (2, .ref (lo + 9)), (3, .ref (lo + 7)), (4, .int a4), (5, .int a5)] dL_areNodes_57 (by decide) rfl ?_
        refine ag_lv [2, 3, 4, 5, 7, 1, 0] rfl ?_
        exact wkL_areNodes_59 (Y := 1 * n + 0) (Y2 := 6 * n + 0) hl hb hb0 _ hk40 ⟨by omega, by omega⟩ _ _ _ _ _ _ _ _ hD ⟨show kc + (1 + (1 * n + 0)) ≤ 66 by omega, show ks + (6 + (6 * n + 0)) ≤ 396 by omega⟩ hf
def gL_areNodes_35 (lo t Ls : Nat) (xs : Nat → Int32) (K : Int32 → TH → MS → Prop) (h : TH) (L : MS) (s0 : Int32) : Prop :=
  gL_areNodes_40 lo t Ls xs K 62 h L s0 (0 : Int32)
set_option maxHeartbeats 4000000 in
set_option maxRecDepth 100000 in
theorem wkL_areNodes_35 {l : Launch} {g : xG} {x0 : xV} {b lo t Ls : Nat} {xs : Nat → Int32} {K : Int32 → TH → MS → Prop} {kc ks : Nat} (hl : l.stackTraces = false) (hb : b + 8 < lo) (hb0 : b < x0.1 ∧ x0.2 b = none) (h : TH) (L : MS) (s0 : Int32) (hD : LDp lo h) (hc : kc + (62) ≤ 66 ∧ ks + (372) ≤ 396) (hf : gL_areNodes_35 lo t Ls xs K h L s0) : AWG (XS b Ls xs) (zR rmL_areNodes g lo x0 K) ML_areNodes rmL_areNodes l g x0 kc ks (LW g lo h L) 35 [(0, va_rf (some t)), (1, .ref (lo + 8)), (2, .ref (lo + 9)), (3, .ref (lo + 7))] [.int s0] := by
  rw [gL_areNodes_35] at hf
  refine ag_istore [(4, .int s0), (0, va_rf (some t)), (1, .ref (lo + 8)), (2, .ref (lo + 9)), (3, .ref (lo + 7))] dL_areNodes_35 (by decide) rfl ?_
  refine ag_iconst (0 : Int32) dL_areNodes_37 (by decide) ?_
  refine ag_istore [(5, .int (0 : Int32)), (4, .int s0), (0, va_rf (some t)), (1, .ref (lo + 8)), (2, .ref (lo + 9)), (3, .ref (lo + 7))] dL_areNodes_38 (by decide) rfl ?_
  refine ag_lv [2, 3, 4, 5, 1, 0] rfl ?_
  exact wkL_areNodes_40 hl hb hb0 62 _ _ _ _ _ _ hD ⟨show kc + (1 * 62 + 0) ≤ 66 by omega, show ks + (6 * 62 + 0) ≤ 396 by omega⟩ hf
def gL_areNodes (lo t Ls : Nat) (xs : Nat → Int32) (K : Int32 → TH → MS → Prop) (h : TH) (L : MS) : Prop :=
  gL_asks lo t Ls xs (fun v2 h3 L4 => (if v2 = (-3000 : Int32) then gL_asks lo t Ls xs (fun v8 h9 L10 => (if v8 = (-3000 : Int32) then gL_areNodes_35 lo t Ls xs K h9 L10 (1 : Int32) else gL_areNodes_35 lo t Ls xs K h9 L10 (0 : Int32))) h3 L4 (9 : Int32) (-1 : Int32) (0 : Int32) else gL_areNodes_35 lo t Ls xs K h3 L4 (0 : Int32))) h L (9 : Int32) (m_I L 7 (4 : Int32).toNatClampNeg) (0 : Int32)
set_option maxHeartbeats 4000000 in
set_option maxRecDepth 100000 in
theorem ctL_areNodes {l : Launch} {g : xG} {b lo t Ls : Nat} {xs : Nat → Int32} {K : Int32 → TH → MS → Prop} (hl : l.stackTraces = false) (hb : b + 8 < lo) (h : TH) (L : MS) (hD : LDp lo h) (hf : gL_areNodes lo t Ls xs K h L) : RT yL_areNodes ML_areNodes rmL_areNodes l g lo b Ls xs [va_rf (some t), .ref (lo + 8), .ref (lo + 9), .ref (lo + 7)] (LW g lo h L) K := by
  rw [gL_areNodes] at hf
  refine RT.of (lv0 := [(0, va_rf (some t)), (1, .ref (lo + 8)), (2, .ref (lo + 9)), (3, .ref (lo + 7))]) (by decide +kernel) rfl rfl (by simp [lg_sl, cat_q, cat_i, cat_l, cat_r]) (by simp [lv_args, cat_q, cat_i, cat_l, cat_r]) hl ?_
  have hb0 := LW_no (g := g) (L := L) hD hb
  have hc : 0 + 66 ≤ 66 ∧ 0 + 396 ≤ 396 := ⟨by omega, by omega⟩
  refine ag_qload_n 0 dL_areNodes_0 rfl ?_
  refine ag_bipush (9 : Int32) dL_areNodes_1 (by decide) ?_
  refine ag_aload_n 3 dL_areNodes_3 rfl ?_
  refine ag_iconst (4 : Int32) dL_areNodes_4 (by decide) ?_
  refine ar_iald 7 5 hD rfl (by decide) (xin_v (by decide)) dL_areNodes_5 ?_
  refine ag_iconst (0 : Int32) dL_areNodes_6 (by decide) ?_
  refine ag_callRH (fun s a c h => h.1) [va_rf (some t), .int (9 : Int32), .int (m_I L 7 (4 : Int32).toNatClampNeg), .int (0 : Int32)] 4 (ctL_asks hl _ _ _ _ _ hD hf) ⟨wl3 (i := 198) rfl rfl, ciL_asks⟩ (wl3 (i := 199) rfl rfl) dL_areNodes_7 rfl rfl (Nat.le_of_ble_eq_true rfl) ⟨Nat.le_of_ble_eq_true rfl, Nat.le_of_ble_eq_true rfl⟩ ⟨show 0 + 2 ≤ 66 by omega, show 0 + 12 ≤ 396 by omega⟩ (fun v2 h3 L4 hf hD5 => ?_)
  refine ag_sipush (-3000 : Int32) dL_areNodes_10 (by decide) ?_
  refine ag_icmp_ne 34 dL_areNodes_13 (by decide) (fun c6 => ?_) (fun c6 => ?_)
  · rw [if_neg c6] at hf
    refine ag_iconst (0 : Int32) dL_areNodes_34 (by decide) ?_
    refine ag_lv [0, 1, 2, 3] rfl ?_
    exact wkL_areNodes_35 hl hb hb0 _ _ _ hD5 ⟨show 0 + 2 + (62) ≤ 66 by omega, show 0 + 12 + (372) ≤ 396 by omega⟩ hf
  · rw [if_pos c6] at hf
    refine ag_qload_n 0 dL_areNodes_16 rfl ?_
    refine ag_bipush (9 : Int32) dL_areNodes_17 (by decide) ?_
    refine ag_iconst (-1 : Int32) dL_areNodes_19 (by decide) ?_
    refine ag_iconst (0 : Int32) dL_areNodes_20 (by decide) ?_
    refine ag_callRH (fun s a c h => h.1) [va_rf (some t), .int (9 : Int32), .int (-1 : Int32), .int (0 : Int32)] 4 (ctL_asks hl _ _ _ _ _ hD5 hf) ⟨wl3 (i := 198) rfl rfl, ciL_asks⟩ (wl3 (i := 199) rfl rfl) dL_areNodes_21 rfl rfl (Nat.le_of_ble_eq_true rfl) ⟨Nat.le_of_ble_eq_true rfl, Nat.le_of_ble_eq_true rfl⟩ ⟨show 0 + 2 + 2 ≤ 66 by omega, show 0 + 12 + 12 ≤ 396 by omega⟩ (fun v8 h9 L10 hf hD11 => ?_)
    refine ag_sipush (-3000 : Int32) dL_areNodes_24 (by decide) ?_
    refine ag_icmp_ne 34 dL_areNodes_27 (by decide) (fun c12 => ?_) (fun c12 => ?_)
    · rw [if_neg c12] at hf
      refine ag_iconst (0 : Int32) dL_areNodes_34 (by decide) ?_
      refine ag_lv [0, 1, 2, 3] rfl ?_
      exact wkL_areNodes_35 hl hb hb0 _ _ _ hD11 ⟨show 0 + 2 + 2 + (62) ≤ 66 by omega, show 0 + 12 + 12 + (372) ≤ 396 by omega⟩ hf
    · rw [if_pos c12] at hf
      refine ag_iconst (1 : Int32) dL_areNodes_30 (by decide) ?_
      refine ag_goto 35 dL_areNodes_31 (by decide) ?_
      refine ag_lv [0, 1, 2, 3] rfl ?_
      exact wkL_areNodes_35 hl hb hb0 _ _ _ hD11 ⟨show 0 + 2 + 2 + (62) ≤ 66 by omega, show 0 + 12 + 12 + (372) ≤ 396 by omega⟩ hf
