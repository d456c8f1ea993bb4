/-! The law: a case a method (1). -/
set_option maxHeartbeats 4000000 in
set_option maxRecDepth 100000 in
theorem lc_player {b L : Nat} {xs : Nat → Int32} {nm : String} {l : Launch} {g : xG} {sz kc ks : Nat} (hl : l.stackTraces = false) {mo t i : Nat} {h h2 : TH} {S S2 : MS} {o o2 : Nat → Int64} {kv : Int32} {r9 : Int32} (hL : L ≤ 3072) (hb : b < sz) (hi : i + 6 ≤ L) (hD2 : LD mo h2) (hr : kc + 200 ≤ 601024 ∧ ks + 1000 ≤ 7293034)
    (hW : WT yL_player ML_player hhL_player rmL_player l g [va_rf (some t), .int (xs (i + 1)), .ref (mo + 39)] (LW g mo h S o) kv (LW g mo h2 S o2)) (h9 : fX9_player S (xs (i + 1)) = some (r9, S2)) (h47 : m_i S2 47 = kv) (hout : kv = 0 → o2 0 = r9.toInt64)
    (K : ∀ z, t_sz h2 ≤ z → AL b L xs nm l g sz (kc + 200) (ks + 1000) (LW g mo (s_Z h2 z) S2 o2) 1647 (lvL t mo b (nI i)) []) : AL b L xs nm l g sz kc ks (LW g mo h S o) 148 (lvL t mo b (nI i)) [] := by
  refine ag_qload_n 3 dL_law_148 rfl ?_
  refine al_rd (j := 1) 4 0 (by omega) hL hb rfl rfl dL_law_149 dL_law_150 dL_law_152 (by decide) dL_law_153 dL_law_154 ?_
  refine ag_aload_n 1 dL_law_155 rfl ?_
  refine agl_call (fun s args c h => h.2.2) [va_rf (some t), .int (xs (i + 1)), .ref (mo + 39)] 3 hW ⟨wl1 (i := 130) rfl rfl, (ciL_player).1, (ciL_player).2.1, (ciL_player).2.2⟩ (wl1 (i := 131) rfl rfl) dL_law_156 rfl rfl (by simp [cat_q, cat_i, cat_l, cat_r]) ⟨Nat.le_of_ble_eq_true rfl, Nat.le_of_ble_eq_true rfl⟩ ⟨show kc + 2 ≤ 601024 by omega, show ks + 12 ≤ 7293034 by omega⟩ (fun z hz => ?_)
  have hDz : LD mo (s_Z h2 z) := hD2.Z hz
  show AL b L xs nm l g sz (kc + rmL_player.cells) (ks + rmL_player.slots) (LW g mo (s_Z h2 z) S o2) 159 _ _
  refine ag_istore _ dL_law_159 (show 5 < 7 by decide) rfl ?_
  refine ag_aload_n 3 dL_law_161 rfl ?_
  refine al_rd (j := 1) 5 1 (by omega) hL hb rfl rfl dL_law_162 dL_law_163 dL_law_165 (by decide) dL_law_166 dL_law_167 ?_
  refine ag_callV 7 (some mo) [.int (xs (i + 1))] 1 rfl (LW_mo hDz) rfl rfl (ct9 (g := g) (o := o2) hDz (ctX9_player (sz := t_sz (s_Z h2 z)) hl S (xs (i + 1)) h9)) ⟨wl5 (i := 9) rfl rfl, (ciX9_player).1, (ciX9_player).2.1, (ciX9_player).2.2⟩ (wl5 (i := 10) rfl rfl) (wl5 (i := 11) rfl rfl) dL_law_168 rfl rfl (by simp [cat_q, cat_i, cat_l, cat_r]) ⟨Nat.le_of_ble_eq_true rfl, Nat.le_of_ble_eq_true rfl⟩ ⟨show kc + 2 + 0 ≤ 601024 by omega, show ks + 12 + 0 ≤ 7293034 by omega⟩ (fun _ => ?_)
  refine ag_istore _ dL_law_171 (show 6 < 7 by decide) rfl ?_
  refine ag_aload_n 4 dL_law_173 rfl ?_
  refine ag_callV 7 (some mo) [] 0 rfl (LW_mo hDz) rfl rfl (ct9t (g := g) (o := o2) hDz (ctX9_thrown (sz := t_sz (s_Z h2 z)) hl S2 (thr47 h47))) ⟨wl5 (i := 5) rfl rfl, ciX9_thrown.1, ciX9_thrown.2.1, ciX9_thrown.2.2⟩ (wl5 (i := 6) rfl rfl) (wl5 (i := 7) rfl rfl) dL_law_174 rfl rfl (by simp [cat_q, cat_i, cat_l, cat_r]) ⟨Nat.le_of_ble_eq_true rfl, Nat.le_of_ble_eq_true rfl⟩ ⟨show kc + 2 + 0 + 0 ≤ 601024 by omega, show ks + 12 + 0 + 0 ≤ 7293034 by omega⟩ (fun _ => ?_)
  refine ag_iload 1 dL_law_177 rfl ?_
  refine ag_icmp_eq 184 dL_law_179 (by decide) (fun _ => ?_) (fun c => absurd rfl c)
  refine ag_iload 1 dL_law_184 rfl ?_
  refine ag_if_ne 201 dL_law_186 (by decide) (fun _ => ?_) (fun h0 => ?_)
  · refine ag_goto 1647 dL_law_201 (by decide) ?_
    refine ag_lv [2, 3, 4, 5, 6] rfl ?_
    exact ag_widen (kc + 200) (ks + 1000) (show kc + 2 + 0 + 0 ≤ kc + 200 by omega) (show ks + 12 + 0 + 0 ≤ ks + 1000 by omega) (K z hz)
  · refine ag_aload_n 3 dL_law_189 rfl ?_
    refine ag_iconst (0 : Int32) dL_law_190 (by decide) ?_
    refine ag_lald (LW_out hDz) vin0 dL_law_191 ?_
    refine ag_iload 0 dL_law_192 rfl ?_
    refine ag_i2l dL_law_194 ?_
    refine ag_lcmp_eq 201 dL_law_195 dL_law_196 (by decide) (fun _ => ?_) (fun c => absurd (hout h0) c)
    refine ag_goto 1647 dL_law_201 (by decide) ?_
    refine ag_lv [2, 3, 4, 5, 6] rfl ?_
    exact ag_widen (kc + 200) (ks + 1000) (show kc + 2 + 0 + 0 ≤ kc + 200 by omega) (show ks + 12 + 0 + 0 ≤ ks + 1000 by omega) (K z hz)
set_option maxHeartbeats 4000000 in
set_option maxRecDepth 100000 in
theorem lc_rank {b L : Nat} {xs : Nat → Int32} {nm : String} {l : Launch} {g : xG} {sz kc ks : Nat} (hl : l.stackTraces = false) {mo t i : Nat} {h h2 : TH} {S S2 : MS} {o o2 : Nat → Int64} {kv : Int32} {r9 : Int32} (hL : L ≤ 3072) (hb : b < sz) (hi : i + 6 ≤ L) (hD2 : LD mo h2) (hr : kc + 200 ≤ 601024 ∧ ks + 1000 ≤ 7293034)
    (hW : WT yL_rank ML_rank hhL_rank rmL_rank l g [va_rf (some t), .int (xs (i + 1)), .ref (mo + 39)] (LW g mo h S o) kv (LW g mo h2 S o2)) (h9 : fX9_rank S (xs (i + 1)) = some (r9, S2)) (h47 : m_i S2 47 = kv) (hout : kv = 0 → o2 0 = r9.toInt64)
    (K : ∀ z, t_sz h2 ≤ z → AL b L xs nm l g sz (kc + 200) (ks + 1000) (LW g mo (s_Z h2 z) S2 o2) 1647 (lvL t mo b (nI i)) []) : AL b L xs nm l g sz kc ks (LW g mo h S o) 204 (lvL t mo b (nI i)) [] := by
  refine ag_qload_n 3 dL_law_204 rfl ?_
  refine al_rd (j := 1) 4 0 (by omega) hL hb rfl rfl dL_law_205 dL_law_206 dL_law_208 (by decide) dL_law_209 dL_law_210 ?_
  refine ag_aload_n 1 dL_law_211 rfl ?_
  refine agl_call (fun s args c h => h.2.2) [va_rf (some t), .int (xs (i + 1)), .ref (mo + 39)] 3 hW ⟨wl1 (i := 230) rfl rfl, (ciL_rank).1, (ciL_rank).2.1, (ciL_rank).2.2⟩ (wl1 (i := 231) rfl rfl) dL_law_212 rfl rfl (by simp [cat_q, cat_i, cat_l, cat_r]) ⟨Nat.le_of_ble_eq_true rfl, Nat.le_of_ble_eq_true rfl⟩ ⟨show kc + 1 ≤ 601024 by omega, show ks + 6 ≤ 7293034 by omega⟩ (fun z hz => ?_)
  have hDz : LD mo (s_Z h2 z) := hD2.Z hz
  show AL b L xs nm l g sz (kc + rmL_rank.cells) (ks + rmL_rank.slots) (LW g mo (s_Z h2 z) S o2) 215 _ _
  refine ag_istore _ dL_law_215 (show 5 < 7 by decide) rfl ?_
  refine ag_aload_n 3 dL_law_217 rfl ?_
  refine al_rd (j := 1) 5 1 (by omega) hL hb rfl rfl dL_law_218 dL_law_219 dL_law_221 (by decide) dL_law_222 dL_law_223 ?_
  refine ag_callV 7 (some mo) [.int (xs (i + 1))] 1 rfl (LW_mo hDz) rfl rfl (ct9 (g := g) (o := o2) hDz (ctX9_rank (sz := t_sz (s_Z h2 z)) hl S (xs (i + 1)) h9)) ⟨wl5 (i := 20) rfl rfl, (ciX9_rank).1, (ciX9_rank).2.1, (ciX9_rank).2.2⟩ (wl5 (i := 21) rfl rfl) (wl5 (i := 22) rfl rfl) dL_law_224 rfl rfl (by simp [cat_q, cat_i, cat_l, cat_r]) ⟨Nat.le_of_ble_eq_true rfl, Nat.le_of_ble_eq_true rfl⟩ ⟨show kc + 1 + 0 ≤ 601024 by omega, show ks + 6 + 0 ≤ 7293034 by omega⟩ (fun _ => ?_)
  refine ag_istore _ dL_law_227 (show 6 < 7 by decide) rfl ?_
  refine ag_aload_n 4 dL_law_229 rfl ?_
  refine ag_callV 7 (some mo) [] 0 rfl (LW_mo hDz) rfl rfl (ct9t (g := g) (o := o2) hDz (ctX9_thrown (sz := t_sz (s_Z h2 z)) hl S2 (thr47 h47))) ⟨wl5 (i := 5) rfl rfl, ciX9_thrown.1, ciX9_thrown.2.1, ciX9_thrown.2.2⟩ (wl5 (i := 6) rfl rfl) (wl5 (i := 7) rfl rfl) dL_law_230 rfl rfl (by simp [cat_q, cat_i, cat_l, cat_r]) ⟨Nat.le_of_ble_eq_true rfl, Nat.le_of_ble_eq_true rfl⟩ ⟨show kc + 1 + 0 + 0 ≤ 601024 by omega, show ks + 6 + 0 + 0 ≤ 7293034 by omega⟩ (fun _ => ?_)
  refine ag_iload 1 dL_law_233 rfl ?_
  refine ag_icmp_eq 240 dL_law_235 (by decide) (fun _ => ?_) (fun c => absurd rfl c)
  refine ag_iload 1 dL_law_240 rfl ?_
  refine ag_if_ne 257 dL_law_242 (by decide) (fun _ => ?_) (fun h0 => ?_)
  · refine ag_goto 1647 dL_law_257 (by decide) ?_
    refine ag_lv [2, 3, 4, 5, 6] rfl ?_
    exact ag_widen (kc + 200) (ks + 1000) (show kc + 1 + 0 + 0 ≤ kc + 200 by omega) (show ks + 6 + 0 + 0 ≤ ks + 1000 by omega) (K z hz)
  · refine ag_aload_n 3 dL_law_245 rfl ?_
    refine ag_iconst (0 : Int32) dL_law_246 (by decide) ?_
    refine ag_lald (LW_out hDz) vin0 dL_law_247 ?_
    refine ag_iload 0 dL_law_248 rfl ?_
    refine ag_i2l dL_law_250 ?_
    refine ag_lcmp_eq 257 dL_law_251 dL_law_252 (by decide) (fun _ => ?_) (fun c => absurd (hout h0) c)
    refine ag_goto 1647 dL_law_257 (by decide) ?_
    refine ag_lv [2, 3, 4, 5, 6] rfl ?_
    exact ag_widen (kc + 200) (ks + 1000) (show kc + 1 + 0 + 0 ≤ kc + 200 by omega) (show ks + 6 + 0 + 0 ≤ ks + 1000 by omega) (K z hz)
set_option maxHeartbeats 4000000 in
set_option maxRecDepth 100000 in
theorem lc_game {b L : Nat} {xs : Nat → Int32} {nm : String} {l : Launch} {g : xG} {sz kc ks : Nat} (hl : l.stackTraces = false) {mo t i : Nat} {h h2 : TH} {S S2 : MS} {o o2 : Nat → Int64} {kv : Int32} {r9 : Int32} (hL : L ≤ 3072) (hb : b < sz) (hi : i + 6 ≤ L) (hD2 : LD mo h2) (hr : kc + 200 ≤ 601024 ∧ ks + 1000 ≤ 7293034)
    (hW : WT yL_game ML_game hhL_game rmL_game l g [va_rf (some t), .int (xs (i + 1)), .int (xs (i + 2)), .int (xs (i + 3)), .int (xs (i + 4)), .int (xs (i + 5)), .ref (mo + 39)] (LW g mo h S o) kv (LW g mo h2 S o2)) (h9 : fX9_game S (xs (i + 1)) (xs (i + 2)) (xs (i + 3)) (xs (i + 4)) (xs (i + 5)) = some (r9, S2)) (h47 : m_i S2 47 = kv) (hout : kv = 0 → o2 0 = r9.toInt64)
    (K : ∀ z, t_sz h2 ≤ z → AL b L xs nm l g sz (kc + 200) (ks + 1000) (LW g mo (s_Z h2 z) S2 o2) 1647 (lvL t mo b (nI i)) []) : AL b L xs nm l g sz kc ks (LW g mo h S o) 260 (lvL t mo b (nI i)) [] := by
  refine ag_qload_n 3 dL_law_260 rfl ?_
  refine al_rd (j := 1) 4 0 (by omega) hL hb rfl rfl dL_law_261 dL_law_262 dL_law_264 (by decide) dL_law_265 dL_law_266 ?_
  refine al_rd (j := 2) 4 0 (by omega) hL hb rfl rfl dL_law_267 dL_law_268 dL_law_270 (by decide) dL_law_271 dL_law_272 ?_
  refine al_rd (j := 3) 4 0 (by omega) hL hb rfl rfl dL_law_273 dL_law_274 dL_law_276 (by decide) dL_law_277 dL_law_278 ?_
  refine al_rd (j := 4) 4 0 (by omega) hL hb rfl rfl dL_law_279 dL_law_280 dL_law_282 (by decide) dL_law_283 dL_law_284 ?_
  refine al_rd (j := 5) 4 0 (by omega) hL hb rfl rfl dL_law_285 dL_law_286 dL_law_288 (by decide) dL_law_289 dL_law_290 ?_
  refine ag_aload_n 1 dL_law_291 rfl ?_
  refine agl_call (fun s args c h => h.2.2) [va_rf (some t), .int (xs (i + 1)), .int (xs (i + 2)), .int (xs (i + 3)), .int (xs (i + 4)), .int (xs (i + 5)), .ref (mo + 39)] 7 hW ⟨wl2 (i := 23) rfl rfl, (ciL_game).1, (ciL_game).2.1, (ciL_game).2.2⟩ (wl2 (i := 24) rfl rfl) dL_law_292 rfl rfl (by simp [cat_q, cat_i, cat_l, cat_r]) ⟨Nat.le_of_ble_eq_true rfl, Nat.le_of_ble_eq_true rfl⟩ ⟨show kc + 11 ≤ 601024 by omega, show ks + 107 ≤ 7293034 by omega⟩ (fun z hz => ?_)
  have hDz : LD mo (s_Z h2 z) := hD2.Z hz
  show AL b L xs nm l g sz (kc + rmL_game.cells) (ks + rmL_game.slots) (LW g mo (s_Z h2 z) S o2) 295 _ _
  refine ag_istore _ dL_law_295 (show 5 < 7 by decide) rfl ?_
  refine ag_aload_n 3 dL_law_297 rfl ?_
  refine al_rd (j := 1) 5 1 (by omega) hL hb rfl rfl dL_law_298 dL_law_299 dL_law_301 (by decide) dL_law_302 dL_law_303 ?_
  refine al_rd (j := 2) 5 1 (by omega) hL hb rfl rfl dL_law_304 dL_law_305 dL_law_307 (by decide) dL_law_308 dL_law_309 ?_
  refine al_rd (j := 3) 5 1 (by omega) hL hb rfl rfl dL_law_310 dL_law_311 dL_law_313 (by decide) dL_law_314 dL_law_315 ?_
  refine al_rd (j := 4) 5 1 (by omega) hL hb rfl rfl dL_law_316 dL_law_317 dL_law_319 (by decide) dL_law_320 dL_law_321 ?_
  refine al_rd (j := 5) 5 1 (by omega) hL hb rfl rfl dL_law_322 dL_law_323 dL_law_325 (by decide) dL_law_326 dL_law_327 ?_
  refine ag_callV 7 (some mo) [.int (xs (i + 1)), .int (xs (i + 2)), .int (xs (i + 3)), .int (xs (i + 4)), .int (xs (i + 5))] 5 rfl (LW_mo hDz) rfl rfl (ct9 (g := g) (o := o2) hDz (ctX9_game (sz := t_sz (s_Z h2 z)) hl S (xs (i + 1)) (xs (i + 2)) (xs (i + 3)) (xs (i + 4)) (xs (i + 5)) h9)) ⟨wl5 (i := 28) rfl rfl, (ciX9_game).1, (ciX9_game).2.1, (ciX9_game).2.2⟩ (wl5 (i := 29) rfl rfl) (wl5 (i := 30) rfl rfl) dL_law_328 rfl rfl (by simp [cat_q, cat_i, cat_l, cat_r]) ⟨Nat.le_of_ble_eq_true rfl, Nat.le_of_ble_eq_true rfl⟩ ⟨show kc + 11 + 0 ≤ 601024 by omega, show ks + 107 + 0 ≤ 7293034 by omega⟩ (fun _ => ?_)
  refine ag_istore _ dL_law_331 (show 6 < 7 by decide) rfl ?_
  refine ag_aload_n 4 dL_law_333 rfl ?_
  refine ag_callV 7 (some mo) [] 0 rfl (LW_mo hDz) rfl rfl (ct9t (g := g) (o := o2) hDz (ctX9_thrown (sz := t_sz (s_Z h2 z)) hl S2 (thr47 h47))) ⟨wl5 (i := 5) rfl rfl, ciX9_thrown.1, ciX9_thrown.2.1, ciX9_thrown.2.2⟩ (wl5 (i := 6) rfl rfl) (wl5 (i := 7) rfl rfl) dL_law_334 rfl rfl (by simp [cat_q, cat_i, cat_l, cat_r]) ⟨Nat.le_of_ble_eq_true rfl, Nat.le_of_ble_eq_true rfl⟩ ⟨show kc + 11 + 0 + 0 ≤ 601024 by omega, show ks + 107 + 0 + 0 ≤ 7293034 by omega⟩ (fun _ => ?_)
  refine ag_iload 1 dL_law_337 rfl ?_
  refine ag_icmp_eq 344 dL_law_339 (by decide) (fun _ => ?_) (fun c => absurd rfl c)
  refine ag_iload 1 dL_law_344 rfl ?_
  refine ag_if_ne 361 dL_law_346 (by decide) (fun _ => ?_) (fun h0 => ?_)
  · refine ag_goto 1647 dL_law_361 (by decide) ?_
    refine ag_lv [2, 3, 4, 5, 6] rfl ?_
    exact ag_widen (kc + 200) (ks + 1000) (show kc + 11 + 0 + 0 ≤ kc + 200 by omega) (show ks + 107 + 0 + 0 ≤ ks + 1000 by omega) (K z hz)
  · refine ag_aload_n 3 dL_law_349 rfl ?_
    refine ag_iconst (0 : Int32) dL_law_350 (by decide) ?_
    refine ag_lald (LW_out hDz) vin0 dL_law_351 ?_
    refine ag_iload 0 dL_law_352 rfl ?_
    refine ag_i2l dL_law_354 ?_
    refine ag_lcmp_eq 361 dL_law_355 dL_law_356 (by decide) (fun _ => ?_) (fun c => absurd (hout h0) c)
    refine ag_goto 1647 dL_law_361 (by decide) ?_
    refine ag_lv [2, 3, 4, 5, 6] rfl ?_
    exact ag_widen (kc + 200) (ks + 1000) (show kc + 11 + 0 + 0 ≤ kc + 200 by omega) (show ks + 107 + 0 + 0 ≤ ks + 1000 by omega) (K z hz)
set_option maxHeartbeats 4000000 in
set_option maxRecDepth 100000 in
theorem lc_play {b L : Nat} {xs : Nat → Int32} {nm : String} {l : Launch} {g : xG} {sz kc ks : Nat} (hl : l.stackTraces = false) {mo t i : Nat} {h h2 : TH} {S S2 : MS} {o o2 : Nat → Int64} {kv : Int32} {r9 : Int32} (hL : L ≤ 3072) (hb : b < sz) (hi : i + 6 ≤ L) (hD2 : LD mo h2) (hr : kc + 200 ≤ 601024 ∧ ks + 1000 ≤ 7293034)
    (hW : WT yL_play ML_play hhL_play rmL_play l g [va_rf (some t), .int (xs (i + 1)), .int (xs (i + 2)), .int (xs (i + 3)), .ref (mo + 39)] (LW g mo h S o) kv (LW g mo h2 S o2)) (h9 : fX9_play S (xs (i + 1)) (xs (i + 2)) (xs (i + 3)) = some (r9, S2)) (h47 : m_i S2 47 = kv) (hout : kv = 0 → o2 0 = r9.toInt64)
    (K : ∀ z, t_sz h2 ≤ z → AL b L xs nm l g sz (kc + 200) (ks + 1000) (LW g mo (s_Z h2 z) S2 o2) 1647 (lvL t mo b (nI i)) []) : AL b L xs nm l g sz kc ks (LW g mo h S o) 364 (lvL t mo b (nI i)) [] := by
  refine ag_qload_n 3 dL_law_364 rfl ?_
  refine al_rd (j := 1) 4 0 (by omega) hL hb rfl rfl dL_law_365 dL_law_366 dL_law_368 (by decide) dL_law_369 dL_law_370 ?_
  refine al_rd (j := 2) 4 0 (by omega) hL hb rfl rfl dL_law_371 dL_law_372 dL_law_374 (by decide) dL_law_375 dL_law_376 ?_
  refine al_rd (j := 3) 4 0 (by omega) hL hb rfl rfl dL_law_377 dL_law_378 dL_law_380 (by decide) dL_law_381 dL_law_382 ?_
  refine ag_aload_n 1 dL_law_383 rfl ?_
  refine agl_call (fun s args c h => h.2.2) [va_rf (some t), .int (xs (i + 1)), .int (xs (i + 2)), .int (xs (i + 3)), .ref (mo + 39)] 5 hW ⟨wl2 (i := 180) rfl rfl, (ciL_play).1, (ciL_play).2.1, (ciL_play).2.2⟩ (wl2 (i := 181) rfl rfl) dL_law_384 rfl rfl (by simp [cat_q, cat_i, cat_l, cat_r]) ⟨Nat.le_of_ble_eq_true rfl, Nat.le_of_ble_eq_true rfl⟩ ⟨show kc + 5 ≤ 601024 by omega, show ks + 30 ≤ 7293034 by omega⟩ (fun z hz => ?_)
  have hDz : LD mo (s_Z h2 z) := hD2.Z hz
  show AL b L xs nm l g sz (kc + rmL_play.cells) (ks + rmL_play.slots) (LW g mo (s_Z h2 z) S o2) 387 _ _
  refine ag_istore _ dL_law_387 (show 5 < 7 by decide) rfl ?_
  refine ag_aload_n 3 dL_law_389 rfl ?_
  refine al_rd (j := 1) 5 1 (by omega) hL hb rfl rfl dL_law_390 dL_law_391 dL_law_393 (by decide) dL_law_394 dL_law_395 ?_
  refine al_rd (j := 2) 5 1 (by omega) hL hb rfl rfl dL_law_396 dL_law_397 dL_law_399 (by decide) dL_law_400 dL_law_401 ?_
  refine al_rd (j := 3) 5 1 (by omega) hL hb rfl rfl dL_law_402 dL_law_403 dL_law_405 (by decide) dL_law_406 dL_law_407 ?_
  refine ag_callV 7 (some mo) [.int (xs (i + 1)), .int (xs (i + 2)), .int (xs (i + 3))] 3 rfl (LW_mo hDz) rfl rfl (ct9 (g := g) (o := o2) hDz (ctX9_play (sz := t_sz (s_Z h2 z)) hl S (xs (i + 1)) (xs (i + 2)) (xs (i + 3)) h9)) ⟨wl5 (i := 58) rfl rfl, (ciX9_play).1, (ciX9_play).2.1, (ciX9_play).2.2⟩ (wl5 (i := 59) rfl rfl) (wl5 (i := 60) rfl rfl) dL_law_408 rfl rfl (by simp [cat_q, cat_i, cat_l, cat_r]) ⟨Nat.le_of_ble_eq_true rfl, Nat.le_of_ble_eq_true rfl⟩ ⟨show kc + 5 + 0 ≤ 601024 by omega, show ks + 30 + 0 ≤ 7293034 by omega⟩ (fun _ => ?_)
  refine ag_istore _ dL_law_411 (show 6 < 7 by decide) rfl ?_
  refine ag_aload_n 4 dL_law_413 rfl ?_
  refine ag_callV 7 (some mo) [] 0 rfl (LW_mo hDz) rfl rfl (ct9t (g := g) (o := o2) hDz (ctX9_thrown (sz := t_sz (s_Z h2 z)) hl S2 (thr47 h47))) ⟨wl5 (i := 5) rfl rfl, ciX9_thrown.1, ciX9_thrown.2.1, ciX9_thrown.2.2⟩ (wl5 (i := 6) rfl rfl) (wl5 (i := 7) rfl rfl) dL_law_414 rfl rfl (by simp [cat_q, cat_i, cat_l, cat_r]) ⟨Nat.le_of_ble_eq_true rfl, Nat.le_of_ble_eq_true rfl⟩ ⟨show kc + 5 + 0 + 0 ≤ 601024 by omega, show ks + 30 + 0 + 0 ≤ 7293034 by omega⟩ (fun _ => ?_)
  refine ag_iload 1 dL_law_417 rfl ?_
  refine ag_icmp_eq 424 dL_law_419 (by decide) (fun _ => ?_) (fun c => absurd rfl c)
  refine ag_iload 1 dL_law_424 rfl ?_
  refine ag_if_ne 441 dL_law_426 (by decide) (fun _ => ?_) (fun h0 => ?_)
  · refine ag_goto 1647 dL_law_441 (by decide) ?_
    refine ag_lv [2, 3, 4, 5, 6] rfl ?_
    exact ag_widen (kc + 200) (ks + 1000) (show kc + 5 + 0 + 0 ≤ kc + 200 by omega) (show ks + 30 + 0 + 0 ≤ ks + 1000 by omega) (K z hz)
  · refine ag_aload_n 3 dL_law_429 rfl ?_
    refine ag_iconst (0 : Int32) dL_law_430 (by decide) ?_
    refine ag_lald (LW_out hDz) vin0 dL_law_431 ?_
    refine ag_iload 0 dL_law_432 rfl ?_
    refine ag_i2l dL_law_434 ?_
    refine ag_lcmp_eq 441 dL_law_435 dL_law_436 (by decide) (fun _ => ?_) (fun c => absurd (hout h0) c)
    refine ag_goto 1647 dL_law_441 (by decide) ?_
    refine ag_lv [2, 3, 4, 5, 6] rfl ?_
    exact ag_widen (kc + 200) (ks + 1000) (show kc + 5 + 0 + 0 ≤ kc + 200 by omega) (show ks + 30 + 0 + 0 ≤ ks + 1000 by omega) (K z hz)
set_option maxHeartbeats 4000000 in
set_option maxRecDepth 100000 in
theorem lc_pass {b L : Nat} {xs : Nat → Int32} {nm : String} {l : Launch} {g : xG} {sz kc ks : Nat} (hl : l.stackTraces = false) {mo t i : Nat} {h h2 : TH} {S S2 : MS} {o o2 : Nat → Int64} {kv : Int32} {r9 : Int32} (hL : L ≤ 3072) (hb : b < sz) (hi : i + 6 ≤ L) (hD2 : LD mo h2) (hr : kc + 200 ≤ 601024 ∧ ks + 1000 ≤ 7293034)
    (hW : WT yL_pass ML_pass hhL_pass rmL_pass l g [va_rf (some t), .int (xs (i + 1)), .int (xs (i + 2)), .ref (mo + 39)] (LW g mo h S o) kv (LW g mo h2 S o2)) (h9 : fX9_pass S (xs (i + 1)) (xs (i + 2)) = some (r9, S2)) (h47 : m_i S2 47 = kv) (hout : kv = 0 → o2 0 = r9.toInt64)
    (K : ∀ z, t_sz h2 ≤ z → AL b L xs nm l g sz (kc + 200) (ks + 1000) (LW g mo (s_Z h2 z) S2 o2) 1647 (lvL t mo b (nI i)) []) : AL b L xs nm l g sz kc ks (LW g mo h S o) 444 (lvL t mo b (nI i)) [] := by
  refine ag_qload_n 3 dL_law_444 rfl ?_
  refine al_rd (j := 1) 4 0 (by omega) hL hb rfl rfl dL_law_445 dL_law_446 dL_law_448 (by decide) dL_law_449 dL_law_450 ?_
  refine al_rd (j := 2) 4 0 (by omega) hL hb rfl rfl dL_law_451 dL_law_452 dL_law_454 (by decide) dL_law_455 dL_law_456 ?_
  refine ag_aload_n 1 dL_law_457 rfl ?_
  refine agl_call (fun s args c h => h.2.2) [va_rf (some t), .int (xs (i + 1)), .int (xs (i + 2)), .ref (mo + 39)] 4 hW ⟨wl3 (i := 5) rfl rfl, (ciL_pass).1, (ciL_pass).2.1, (ciL_pass).2.2⟩ (wl3 (i := 6) rfl rfl) dL_law_458 rfl rfl (by simp [cat_q, cat_i, cat_l, cat_r]) ⟨Nat.le_of_ble_eq_true rfl, Nat.le_of_ble_eq_true rfl⟩ ⟨show kc + 4 ≤ 601024 by omega, show ks + 24 ≤ 7293034 by omega⟩ (fun z hz => ?_)
  have hDz : LD mo (s_Z h2 z) := hD2.Z hz
  show AL b L xs nm l g sz (kc + rmL_pass.cells) (ks + rmL_pass.slots) (LW g mo (s_Z h2 z) S o2) 461 _ _
  refine ag_istore _ dL_law_461 (show 5 < 7 by decide) rfl ?_
  refine ag_aload_n 3 dL_law_463 rfl ?_
  refine al_rd (j := 1) 5 1 (by omega) hL hb rfl rfl dL_law_464 dL_law_465 dL_law_467 (by decide) dL_law_468 dL_law_469 ?_
  refine al_rd (j := 2) 5 1 (by omega) hL hb rfl rfl dL_law_470 dL_law_471 dL_law_473 (by decide) dL_law_474 dL_law_475 ?_
  refine ag_callV 7 (some mo) [.int (xs (i + 1)), .int (xs (i + 2))] 2 rfl (LW_mo hDz) rfl rfl (ct9 (g := g) (o := o2) hDz (ctX9_pass (sz := t_sz (s_Z h2 z)) hl S (xs (i + 1)) (xs (i + 2)) h9)) ⟨wl5 (i := 124) rfl rfl, (ciX9_pass).1, (ciX9_pass).2.1, (ciX9_pass).2.2⟩ (wl5 (i := 125) rfl rfl) (wl5 (i := 126) rfl rfl) dL_law_476 rfl rfl (by simp [cat_q, cat_i, cat_l, cat_r]) ⟨Nat.le_of_ble_eq_true rfl, Nat.le_of_ble_eq_true rfl⟩ ⟨show kc + 4 + 0 ≤ 601024 by omega, show ks + 24 + 0 ≤ 7293034 by omega⟩ (fun _ => ?_)
  refine ag_istore _ dL_law_479 (show 6 < 7 by decide) rfl ?_
  refine ag_aload_n 4 dL_law_481 rfl ?_
  refine ag_callV 7 (some mo) [] 0 rfl (LW_mo hDz) rfl rfl (ct9t (g := g) (o := o2) hDz (ctX9_thrown (sz := t_sz (s_Z h2 z)) hl S2 (thr47 h47))) ⟨wl5 (i := 5) rfl rfl, ciX9_thrown.1, ciX9_thrown.2.1, ciX9_thrown.2.2⟩ (wl5 (i := 6) rfl rfl) (wl5 (i := 7) rfl rfl) dL_law_482 rfl rfl (by simp [cat_q, cat_i, cat_l, cat_r]) ⟨Nat.le_of_ble_eq_true rfl, Nat.le_of_ble_eq_true rfl⟩ ⟨show kc + 4 + 0 + 0 ≤ 601024 by omega, show ks + 24 + 0 + 0 ≤ 7293034 by omega⟩ (fun _ => ?_)
  refine ag_iload 1 dL_law_485 rfl ?_
  refine ag_icmp_eq 492 dL_law_487 (by decide) (fun _ => ?_) (fun c => absurd rfl c)
  refine ag_iload 1 dL_law_492 rfl ?_
  refine ag_if_ne 509 dL_law_494 (by decide) (fun _ => ?_) (fun h0 => ?_)
  · refine ag_goto 1647 dL_law_509 (by decide) ?_
    refine ag_lv [2, 3, 4, 5, 6] rfl ?_
    exact ag_widen (kc + 200) (ks + 1000) (show kc + 4 + 0 + 0 ≤ kc + 200 by omega) (show ks + 24 + 0 + 0 ≤ ks + 1000 by omega) (K z hz)
  · refine ag_aload_n 3 dL_law_497 rfl ?_
    refine ag_iconst (0 : Int32) dL_law_498 (by decide) ?_
    refine ag_lald (LW_out hDz) vin0 dL_law_499 ?_
    refine ag_iload 0 dL_law_500 rfl ?_
    refine ag_i2l dL_law_502 ?_
    refine ag_lcmp_eq 509 dL_law_503 dL_law_504 (by decide) (fun _ => ?_) (fun c => absurd (hout h0) c)
    refine ag_goto 1647 dL_law_509 (by decide) ?_
    refine ag_lv [2, 3, 4, 5, 6] rfl ?_
    exact ag_widen (kc + 200) (ks + 1000) (show kc + 4 + 0 + 0 ≤ kc + 200 by omega) (show ks + 24 + 0 + 0 ≤ ks + 1000 by omega) (K z hz)
set_option maxHeartbeats 4000000 in
set_option maxRecDepth 100000 in
theorem lc_resign {b L : Nat} {xs : Nat → Int32} {nm : String} {l : Launch} {g : xG} {sz kc ks : Nat} (hl : l.stackTraces = false) {mo t i : Nat} {h h2 : TH} {S S2 : MS} {o o2 : Nat → Int64} {kv : Int32} {r9 : Int32} (hL : L ≤ 3072) (hb : b < sz) (hi : i + 6 ≤ L) (hD2 : LD mo h2) (hr : kc + 200 ≤ 601024 ∧ ks + 1000 ≤ 7293034)
    (hW : WT yL_resign ML_resign hhL_resign rmL_resign l g [va_rf (some t), .int (xs (i + 1)), .ref (mo + 39)] (LW g mo h S o) kv (LW g mo h2 S o2)) (h9 : fX9_resign S (xs (i + 1)) = some (r9, S2)) (h47 : m_i S2 47 = kv) (hout : kv = 0 → o2 0 = r9.toInt64)
    (K : ∀ z, t_sz h2 ≤ z → AL b L xs nm l g sz (kc + 200) (ks + 1000) (LW g mo (s_Z h2 z) S2 o2) 1647 (lvL t mo b (nI i)) []) : AL b L xs nm l g sz kc ks (LW g mo h S o) 512 (lvL t mo b (nI i)) [] := by
  refine ag_qload_n 3 dL_law_512 rfl ?_
  refine al_rd (j := 1) 4 0 (by omega) hL hb rfl rfl dL_law_513 dL_law_514 dL_law_516 (by decide) dL_law_517 dL_law_518 ?_
  refine ag_aload_n 1 dL_law_519 rfl ?_
  refine agl_call (fun s args c h => h.2.2) [va_rf (some t), .int (xs (i + 1)), .ref (mo + 39)] 3 hW ⟨wl3 (i := 41) rfl rfl, (ciL_resign).1, (ciL_resign).2.1, (ciL_resign).2.2⟩ (wl3 (i := 42) rfl rfl) dL_law_520 rfl rfl (by simp [cat_q, cat_i, cat_l, cat_r]) ⟨Nat.le_of_ble_eq_true rfl, Nat.le_of_ble_eq_true rfl⟩ ⟨show kc + 2 ≤ 601024 by omega, show ks + 12 ≤ 7293034 by omega⟩ (fun z hz => ?_)
  have hDz : LD mo (s_Z h2 z) := hD2.Z hz
  show AL b L xs nm l g sz (kc + rmL_resign.cells) (ks + rmL_resign.slots) (LW g mo (s_Z h2 z) S o2) 523 _ _
  refine ag_istore _ dL_law_523 (show 5 < 7 by decide) rfl ?_
  refine ag_aload_n 3 dL_law_525 rfl ?_
  refine al_rd (j := 1) 5 1 (by omega) hL hb rfl rfl dL_law_526 dL_law_527 dL_law_529 (by decide) dL_law_530 dL_law_531 ?_
  refine ag_callV 7 (some mo) [.int (xs (i + 1))] 1 rfl (LW_mo hDz) rfl rfl (ct9 (g := g) (o := o2) hDz (ctX9_resign (sz := t_sz (s_Z h2 z)) hl S (xs (i + 1)) h9)) ⟨wl5 (i := 132) rfl rfl, (ciX9_resign).1, (ciX9_resign).2.1, (ciX9_resign).2.2⟩ (wl5 (i := 133) rfl rfl) (wl5 (i := 134) rfl rfl) dL_law_532 rfl rfl (by simp [cat_q, cat_i, cat_l, cat_r]) ⟨Nat.le_of_ble_eq_true rfl, Nat.le_of_ble_eq_true rfl⟩ ⟨show kc + 2 + 0 ≤ 601024 by omega, show ks + 12 + 0 ≤ 7293034 by omega⟩ (fun _ => ?_)
  refine ag_istore _ dL_law_535 (show 6 < 7 by decide) rfl ?_
  refine ag_aload_n 4 dL_law_537 rfl ?_
  refine ag_callV 7 (some mo) [] 0 rfl (LW_mo hDz) rfl rfl (ct9t (g := g) (o := o2) hDz (ctX9_thrown (sz := t_sz (s_Z h2 z)) hl S2 (thr47 h47))) ⟨wl5 (i := 5) rfl rfl, ciX9_thrown.1, ciX9_thrown.2.1, ciX9_thrown.2.2⟩ (wl5 (i := 6) rfl rfl) (wl5 (i := 7) rfl rfl) dL_law_538 rfl rfl (by simp [cat_q, cat_i, cat_l, cat_r]) ⟨Nat.le_of_ble_eq_true rfl, Nat.le_of_ble_eq_true rfl⟩ ⟨show kc + 2 + 0 + 0 ≤ 601024 by omega, show ks + 12 + 0 + 0 ≤ 7293034 by omega⟩ (fun _ => ?_)
  refine ag_iload 1 dL_law_541 rfl ?_
  refine ag_icmp_eq 548 dL_law_543 (by decide) (fun _ => ?_) (fun c => absurd rfl c)
  refine ag_iload 1 dL_law_548 rfl ?_
  refine ag_if_ne 565 dL_law_550 (by decide) (fun _ => ?_) (fun h0 => ?_)
  · refine ag_goto 1647 dL_law_565 (by decide) ?_
    refine ag_lv [2, 3, 4, 5, 6] rfl ?_
    exact ag_widen (kc + 200) (ks + 1000) (show kc + 2 + 0 + 0 ≤ kc + 200 by omega) (show ks + 12 + 0 + 0 ≤ ks + 1000 by omega) (K z hz)
  · refine ag_aload_n 3 dL_law_553 rfl ?_
    refine ag_iconst (0 : Int32) dL_law_554 (by decide) ?_
    refine ag_lald (LW_out hDz) vin0 dL_law_555 ?_
    refine ag_iload 0 dL_law_556 rfl ?_
    refine ag_i2l dL_law_558 ?_
    refine ag_lcmp_eq 565 dL_law_559 dL_law_560 (by decide) (fun _ => ?_) (fun c => absurd (hout h0) c)
    refine ag_goto 1647 dL_law_565 (by decide) ?_
    refine ag_lv [2, 3, 4, 5, 6] rfl ?_
    exact ag_widen (kc + 200) (ks + 1000) (show kc + 2 + 0 + 0 ≤ kc + 200 by omega) (show ks + 12 + 0 + 0 ≤ ks + 1000 by omega) (K z hz)
set_option maxHeartbeats 4000000 in
set_option maxRecDepth 100000 in
theorem lc_state {b L : Nat} {xs : Nat → Int32} {nm : String} {l : Launch} {g : xG} {sz kc ks : Nat} (hl : l.stackTraces = false) {mo t i : Nat} {h h2 : TH} {S S2 : MS} {o o2 : Nat → Int64} {kv : Int32} {r9 : Int32} (hL : L ≤ 3072) (hb : b < sz) (hi : i + 6 ≤ L) (hD2 : LD mo h2) (hr : kc + 200 ≤ 601024 ∧ ks + 1000 ≤ 7293034)
    (hW : WT yL_state ML_state hhL_state rmL_state l g [va_rf (some t), .int (xs (i + 1)), .ref (mo + 39)] (LW g mo h S o) kv (LW g mo h2 S o2)) (h9 : fX9_state S (xs (i + 1)) = some (r9, S2)) (h47 : m_i S2 47 = kv) (hout : kv = 0 → o2 0 = r9.toInt64)
    (K : ∀ z, t_sz h2 ≤ z → AL b L xs nm l g sz (kc + 200) (ks + 1000) (LW g mo (s_Z h2 z) S2 o2) 1647 (lvL t mo b (nI i)) []) : AL b L xs nm l g sz kc ks (LW g mo h S o) 568 (lvL t mo b (nI i)) [] := by
  refine ag_qload_n 3 dL_law_568 rfl ?_
  refine al_rd (j := 1) 4 0 (by omega) hL hb rfl rfl dL_law_569 dL_law_570 dL_law_572 (by decide) dL_law_573 dL_law_574 ?_
  refine ag_aload_n 1 dL_law_575 rfl ?_
  refine agl_call (fun s args c h => h.2.2) [va_rf (some t), .int (xs (i + 1)), .ref (mo + 39)] 3 hW ⟨wl3 (i := 50) rfl rfl, (ciL_state).1, (ciL_state).2.1, (ciL_state).2.2⟩ (wl3 (i := 51) rfl rfl) dL_law_576 rfl rfl (by simp [cat_q, cat_i, cat_l, cat_r]) ⟨Nat.le_of_ble_eq_true rfl, Nat.le_of_ble_eq_true rfl⟩ ⟨show kc + 1 ≤ 601024 by omega, show ks + 6 ≤ 7293034 by omega⟩ (fun z hz => ?_)
  have hDz : LD mo (s_Z h2 z) := hD2.Z hz
  show AL b L xs nm l g sz (kc + rmL_state.cells) (ks + rmL_state.slots) (LW g mo (s_Z h2 z) S o2) 579 _ _
  refine ag_istore _ dL_law_579 (show 5 < 7 by decide) rfl ?_
  refine ag_aload_n 3 dL_law_581 rfl ?_
  refine al_rd (j := 1) 5 1 (by omega) hL hb rfl rfl dL_law_582 dL_law_583 dL_law_585 (by decide) dL_law_586 dL_law_587 ?_
  refine ag_callV 7 (some mo) [.int (xs (i + 1))] 1 rfl (LW_mo hDz) rfl rfl (ct9 (g := g) (o := o2) hDz (ctX9_state (sz := t_sz (s_Z h2 z)) hl S (xs (i + 1)) h9)) ⟨wl5 (i := 136) rfl rfl, (ciX9_state).1, (ciX9_state).2.1, (ciX9_state).2.2⟩ (wl5 (i := 137) rfl rfl) (wl5 (i := 138) rfl rfl) dL_law_588 rfl rfl (by simp [cat_q, cat_i, cat_l, cat_r]) ⟨Nat.le_of_ble_eq_true rfl, Nat.le_of_ble_eq_true rfl⟩ ⟨show kc + 1 + 0 ≤ 601024 by omega, show ks + 6 + 0 ≤ 7293034 by omega⟩ (fun _ => ?_)
  refine ag_istore _ dL_law_591 (show 6 < 7 by decide) rfl ?_
  refine ag_aload_n 4 dL_law_593 rfl ?_
  refine ag_callV 7 (some mo) [] 0 rfl (LW_mo hDz) rfl rfl (ct9t (g := g) (o := o2) hDz (ctX9_thrown (sz := t_sz (s_Z h2 z)) hl S2 (thr47 h47))) ⟨wl5 (i := 5) rfl rfl, ciX9_thrown.1, ciX9_thrown.2.1, ciX9_thrown.2.2⟩ (wl5 (i := 6) rfl rfl) (wl5 (i := 7) rfl rfl) dL_law_594 rfl rfl (by simp [cat_q, cat_i, cat_l, cat_r]) ⟨Nat.le_of_ble_eq_true rfl, Nat.le_of_ble_eq_true rfl⟩ ⟨show kc + 1 + 0 + 0 ≤ 601024 by omega, show ks + 6 + 0 + 0 ≤ 7293034 by omega⟩ (fun _ => ?_)
  refine ag_iload 1 dL_law_597 rfl ?_
  refine ag_icmp_eq 604 dL_law_599 (by decide) (fun _ => ?_) (fun c => absurd rfl c)
  refine ag_iload 1 dL_law_604 rfl ?_
  refine ag_if_ne 621 dL_law_606 (by decide) (fun _ => ?_) (fun h0 => ?_)
  · refine ag_goto 1647 dL_law_621 (by decide) ?_
    refine ag_lv [2, 3, 4, 5, 6] rfl ?_
    exact ag_widen (kc + 200) (ks + 1000) (show kc + 1 + 0 + 0 ≤ kc + 200 by omega) (show ks + 6 + 0 + 0 ≤ ks + 1000 by omega) (K z hz)
  · refine ag_aload_n 3 dL_law_609 rfl ?_
    refine ag_iconst (0 : Int32) dL_law_610 (by decide) ?_
    refine ag_lald (LW_out hDz) vin0 dL_law_611 ?_
    refine ag_iload 0 dL_law_612 rfl ?_
    refine ag_i2l dL_law_614 ?_
    refine ag_lcmp_eq 621 dL_law_615 dL_law_616 (by decide) (fun _ => ?_) (fun c => absurd (hout h0) c)
    refine ag_goto 1647 dL_law_621 (by decide) ?_
    refine ag_lv [2, 3, 4, 5, 6] rfl ?_
    exact ag_widen (kc + 200) (ks + 1000) (show kc + 1 + 0 + 0 ≤ kc + 200 by omega) (show ks + 6 + 0 + 0 ≤ ks + 1000 by omega) (K z hz)
set_option maxHeartbeats 4000000 in
set_option maxRecDepth 100000 in
theorem lc_handicap {b L : Nat} {xs : Nat → Int32} {nm : String} {l : Launch} {g : xG} {sz kc ks : Nat} (hl : l.stackTraces = false) {mo t i : Nat} {h h2 : TH} {S S2 : MS} {o o2 : Nat → Int64} {kv : Int32} {r9 : Int32} (hL : L ≤ 3072) (hb : b < sz) (hi : i + 6 ≤ L) (hD2 : LD mo h2) (hr : kc + 200 ≤ 601024 ∧ ks + 1000 ≤ 7293034)
    (hW : WT yL_handicap ML_handicap hhL_handicap rmL_handicap l g [va_rf (some t), .int (xs (i + 1)), .ref (mo + 39)] (LW g mo h S o) kv (LW g mo h2 S o2)) (h9 : fX9_handicap S (xs (i + 1)) = some (r9, S2)) (h47 : m_i S2 47 = kv) (hout : kv = 0 → o2 0 = r9.toInt64)
    (K : ∀ z, t_sz h2 ≤ z → AL b L xs nm l g sz (kc + 200) (ks + 1000) (LW g mo (s_Z h2 z) S2 o2) 1647 (lvL t mo b (nI i)) []) : AL b L xs nm l g sz kc ks (LW g mo h S o) 624 (lvL t mo b (nI i)) [] := by
  refine ag_qload_n 3 dL_law_624 rfl ?_
  refine al_rd (j := 1) 4 0 (by omega) hL hb rfl rfl dL_law_625 dL_law_626 dL_law_628 (by decide) dL_law_629 dL_law_630 ?_
  refine ag_aload_n 1 dL_law_631 rfl ?_
  refine agl_call (fun s args c h => h.2.2) [va_rf (some t), .int (xs (i + 1)), .ref (mo + 39)] 3 hW ⟨wl3 (i := 57) rfl rfl, (ciL_handicap).1, (ciL_handicap).2.1, (ciL_handicap).2.2⟩ (wl3 (i := 58) rfl rfl) dL_law_632 rfl rfl (by simp [cat_q, cat_i, cat_l, cat_r]) ⟨Nat.le_of_ble_eq_true rfl, Nat.le_of_ble_eq_true rfl⟩ ⟨show kc + 1 ≤ 601024 by omega, show ks + 6 ≤ 7293034 by omega⟩ (fun z hz => ?_)
  have hDz : LD mo (s_Z h2 z) := hD2.Z hz
  show AL b L xs nm l g sz (kc + rmL_handicap.cells) (ks + rmL_handicap.slots) (LW g mo (s_Z h2 z) S o2) 635 _ _
  refine ag_istore _ dL_law_635 (show 5 < 7 by decide) rfl ?_
  refine ag_aload_n 3 dL_law_637 rfl ?_
  refine al_rd (j := 1) 5 1 (by omega) hL hb rfl rfl dL_law_638 dL_law_639 dL_law_641 (by decide) dL_law_642 dL_law_643 ?_
  refine ag_callV 7 (some mo) [.int (xs (i + 1))] 1 rfl (LW_mo hDz) rfl rfl (ct9 (g := g) (o := o2) hDz (ctX9_handicap (sz := t_sz (s_Z h2 z)) hl S (xs (i + 1)) h9)) ⟨wl5 (i := 144) rfl rfl, (ciX9_handicap).1, (ciX9_handicap).2.1, (ciX9_handicap).2.2⟩ (wl5 (i := 145) rfl rfl) (wl5 (i := 146) rfl rfl) dL_law_644 rfl rfl (by simp [cat_q, cat_i, cat_l, cat_r]) ⟨Nat.le_of_ble_eq_true rfl, Nat.le_of_ble_eq_true rfl⟩ ⟨show kc + 1 + 0 ≤ 601024 by omega, show ks + 6 + 0 ≤ 7293034 by omega⟩ (fun _ => ?_)
  refine ag_istore _ dL_law_647 (show 6 < 7 by decide) rfl ?_
  refine ag_aload_n 4 dL_law_649 rfl ?_
  refine ag_callV 7 (some mo) [] 0 rfl (LW_mo hDz) rfl rfl (ct9t (g := g) (o := o2) hDz (ctX9_thrown (sz := t_sz (s_Z h2 z)) hl S2 (thr47 h47))) ⟨wl5 (i := 5) rfl rfl, ciX9_thrown.1, ciX9_thrown.2.1, ciX9_thrown.2.2⟩ (wl5 (i := 6) rfl rfl) (wl5 (i := 7) rfl rfl) dL_law_650 rfl rfl (by simp [cat_q, cat_i, cat_l, cat_r]) ⟨Nat.le_of_ble_eq_true rfl, Nat.le_of_ble_eq_true rfl⟩ ⟨show kc + 1 + 0 + 0 ≤ 601024 by omega, show ks + 6 + 0 + 0 ≤ 7293034 by omega⟩ (fun _ => ?_)
  refine ag_iload 1 dL_law_653 rfl ?_
  refine ag_icmp_eq 660 dL_law_655 (by decide) (fun _ => ?_) (fun c => absurd rfl c)
  refine ag_iload 1 dL_law_660 rfl ?_
  refine ag_if_ne 677 dL_law_662 (by decide) (fun _ => ?_) (fun h0 => ?_)
  · refine ag_goto 1647 dL_law_677 (by decide) ?_
    refine ag_lv [2, 3, 4, 5, 6] rfl ?_
    exact ag_widen (kc + 200) (ks + 1000) (show kc + 1 + 0 + 0 ≤ kc + 200 by omega) (show ks + 6 + 0 + 0 ≤ ks + 1000 by omega) (K z hz)
  · refine ag_aload_n 3 dL_law_665 rfl ?_
    refine ag_iconst (0 : Int32) dL_law_666 (by decide) ?_
    refine ag_lald (LW_out hDz) vin0 dL_law_667 ?_
    refine ag_iload 0 dL_law_668 rfl ?_
    refine ag_i2l dL_law_670 ?_
    refine ag_lcmp_eq 677 dL_law_671 dL_law_672 (by decide) (fun _ => ?_) (fun c => absurd (hout h0) c)
    refine ag_goto 1647 dL_law_677 (by decide) ?_
    refine ag_lv [2, 3, 4, 5, 6] rfl ?_
    exact ag_widen (kc + 200) (ks + 1000) (show kc + 1 + 0 + 0 ≤ kc + 200 by omega) (show ks + 6 + 0 + 0 ≤ ks + 1000 by omega) (K z hz)
set_option maxHeartbeats 4000000 in
set_option maxRecDepth 100000 in
theorem lc_sign {b L : Nat} {xs : Nat → Int32} {nm : String} {l : Launch} {g : xG} {sz kc ks : Nat} (hl : l.stackTraces = false) {mo t i : Nat} {h h2 : TH} {S S2 : MS} {o o2 : Nat → Int64} {kv : Int32} {r9 : Int32} (hL : L ≤ 3072) (hb : b < sz) (hi : i + 6 ≤ L) (hD2 : LD mo h2) (hr : kc + 200 ≤ 601024 ∧ ks + 1000 ≤ 7293034)
    (hW : WT yL_sign ML_sign hhL_sign rmL_sign l g [va_rf (some t), .int (xs (i + 1)), .int (xs (i + 2)), .ref (mo + 39)] (LW g mo h S o) kv (LW g mo h2 S o2)) (h9 : fX9_sign S (xs (i + 1)) (xs (i + 2)) = some (r9, S2)) (h47 : m_i S2 47 = kv) (hout : kv = 0 → o2 0 = r9.toInt64)
    (K : ∀ z, t_sz h2 ≤ z → AL b L xs nm l g sz (kc + 200) (ks + 1000) (LW g mo (s_Z h2 z) S2 o2) 1647 (lvL t mo b (nI i)) []) : AL b L xs nm l g sz kc ks (LW g mo h S o) 680 (lvL t mo b (nI i)) [] := by
  refine ag_qload_n 3 dL_law_680 rfl ?_
  refine al_rd (j := 1) 4 0 (by omega) hL hb rfl rfl dL_law_681 dL_law_682 dL_law_684 (by decide) dL_law_685 dL_law_686 ?_
  refine al_rd (j := 2) 4 0 (by omega) hL hb rfl rfl dL_law_687 dL_law_688 dL_law_690 (by decide) dL_law_691 dL_law_692 ?_
  refine ag_aload_n 1 dL_law_693 rfl ?_
  refine agl_call (fun s args c h => h.2.2) [va_rf (some t), .int (xs (i + 1)), .int (xs (i + 2)), .ref (mo + 39)] 4 hW ⟨wl3 (i := 64) rfl rfl, (ciL_sign).1, (ciL_sign).2.1, (ciL_sign).2.2⟩ (wl3 (i := 65) rfl rfl) dL_law_694 rfl rfl (by simp [cat_q, cat_i, cat_l, cat_r]) ⟨Nat.le_of_ble_eq_true rfl, Nat.le_of_ble_eq_true rfl⟩ ⟨show kc + 2 ≤ 601024 by omega, show ks + 12 ≤ 7293034 by omega⟩ (fun z hz => ?_)
  have hDz : LD mo (s_Z h2 z) := hD2.Z hz
  show AL b L xs nm l g sz (kc + rmL_sign.cells) (ks + rmL_sign.slots) (LW g mo (s_Z h2 z) S o2) 697 _ _
  refine ag_istore _ dL_law_697 (show 5 < 7 by decide) rfl ?_
  refine ag_aload_n 3 dL_law_699 rfl ?_
  refine al_rd (j := 1) 5 1 (by omega) hL hb rfl rfl dL_law_700 dL_law_701 dL_law_703 (by decide) dL_law_704 dL_law_705 ?_
  refine al_rd (j := 2) 5 1 (by omega) hL hb rfl rfl dL_law_706 dL_law_707 dL_law_709 (by decide) dL_law_710 dL_law_711 ?_
  refine ag_callV 7 (some mo) [.int (xs (i + 1)), .int (xs (i + 2))] 2 rfl (LW_mo hDz) rfl rfl (ct9 (g := g) (o := o2) hDz (ctX9_sign (sz := t_sz (s_Z h2 z)) hl S (xs (i + 1)) (xs (i + 2)) h9)) ⟨wl5 (i := 148) rfl rfl, (ciX9_sign).1, (ciX9_sign).2.1, (ciX9_sign).2.2⟩ (wl5 (i := 149) rfl rfl) (wl5 (i := 150) rfl rfl) dL_law_712 rfl rfl (by simp [cat_q, cat_i, cat_l, cat_r]) ⟨Nat.le_of_ble_eq_true rfl, Nat.le_of_ble_eq_true rfl⟩ ⟨show kc + 2 + 0 ≤ 601024 by omega, show ks + 12 + 0 ≤ 7293034 by omega⟩ (fun _ => ?_)
  refine ag_istore _ dL_law_715 (show 6 < 7 by decide) rfl ?_
  refine ag_aload_n 4 dL_law_717 rfl ?_
  refine ag_callV 7 (some mo) [] 0 rfl (LW_mo hDz) rfl rfl (ct9t (g := g) (o := o2) hDz (ctX9_thrown (sz := t_sz (s_Z h2 z)) hl S2 (thr47 h47))) ⟨wl5 (i := 5) rfl rfl, ciX9_thrown.1, ciX9_thrown.2.1, ciX9_thrown.2.2⟩ (wl5 (i := 6) rfl rfl) (wl5 (i := 7) rfl rfl) dL_law_718 rfl rfl (by simp [cat_q, cat_i, cat_l, cat_r]) ⟨Nat.le_of_ble_eq_true rfl, Nat.le_of_ble_eq_true rfl⟩ ⟨show kc + 2 + 0 + 0 ≤ 601024 by omega, show ks + 12 + 0 + 0 ≤ 7293034 by omega⟩ (fun _ => ?_)
  refine ag_iload 1 dL_law_721 rfl ?_
  refine ag_icmp_eq 728 dL_law_723 (by decide) (fun _ => ?_) (fun c => absurd rfl c)
  refine ag_iload 1 dL_law_728 rfl ?_
  refine ag_if_ne 745 dL_law_730 (by decide) (fun _ => ?_) (fun h0 => ?_)
  · refine ag_goto 1647 dL_law_745 (by decide) ?_
    refine ag_lv [2, 3, 4, 5, 6] rfl ?_
    exact ag_widen (kc + 200) (ks + 1000) (show kc + 2 + 0 + 0 ≤ kc + 200 by omega) (show ks + 12 + 0 + 0 ≤ ks + 1000 by omega) (K z hz)
  · refine ag_aload_n 3 dL_law_733 rfl ?_
    refine ag_iconst (0 : Int32) dL_law_734 (by decide) ?_
    refine ag_lald (LW_out hDz) vin0 dL_law_735 ?_
    refine ag_iload 0 dL_law_736 rfl ?_
    refine ag_i2l dL_law_738 ?_
    refine ag_lcmp_eq 745 dL_law_739 dL_law_740 (by decide) (fun _ => ?_) (fun c => absurd (hout h0) c)
    refine ag_goto 1647 dL_law_745 (by decide) ?_
    refine ag_lv [2, 3, 4, 5, 6] rfl ?_
    exact ag_widen (kc + 200) (ks + 1000) (show kc + 2 + 0 + 0 ≤ kc + 200 by omega) (show ks + 12 + 0 + 0 ≤ ks + 1000 by omega) (K z hz)
set_option maxHeartbeats 4000000 in
set_option maxRecDepth 100000 in
theorem lc_clock {b L : Nat} {xs : Nat → Int32} {nm : String} {l : Launch} {g : xG} {sz kc ks : Nat} (hl : l.stackTraces = false) {mo t i : Nat} {h h2 : TH} {S S2 : MS} {o o2 : Nat → Int64} {kv : Int32} {r9 : Int32} (hL : L ≤ 3072) (hb : b < sz) (hi : i + 6 ≤ L) (hD2 : LD mo h2) (hr : kc + 200 ≤ 601024 ∧ ks + 1000 ≤ 7293034)
    (hW : WT yL_clock ML_clock hhL_clock rmL_clock l g [va_rf (some t), .int (xs (i + 1)), .int (xs (i + 2)), .ref (mo + 39)] (LW g mo h S o) kv (LW g mo h2 S o2)) (h9 : fX9_clock S (xs (i + 1)) (xs (i + 2)) = some (r9, S2)) (h47 : m_i S2 47 = kv) (hout : kv = 0 → o2 0 = r9.toInt64)
    (K : ∀ z, t_sz h2 ≤ z → AL b L xs nm l g sz (kc + 200) (ks + 1000) (LW g mo (s_Z h2 z) S2 o2) 1647 (lvL t mo b (nI i)) []) : AL b L xs nm l g sz kc ks (LW g mo h S o) 748 (lvL t mo b (nI i)) [] := by
  refine ag_qload_n 3 dL_law_748 rfl ?_
  refine al_rd (j := 1) 4 0 (by omega) hL hb rfl rfl dL_law_749 dL_law_750 dL_law_752 (by decide) dL_law_753 dL_law_754 ?_
  refine al_rd (j := 2) 4 0 (by omega) hL hb rfl rfl dL_law_755 dL_law_756 dL_law_758 (by decide) dL_law_759 dL_law_760 ?_
  refine ag_aload_n 1 dL_law_761 rfl ?_
  refine agl_call (fun s args c h => h.2.2) [va_rf (some t), .int (xs (i + 1)), .int (xs (i + 2)), .ref (mo + 39)] 4 hW ⟨wl3 (i := 75) rfl rfl, (ciL_clock).1, (ciL_clock).2.1, (ciL_clock).2.2⟩ (wl3 (i := 76) rfl rfl) dL_law_762 rfl rfl (by simp [cat_q, cat_i, cat_l, cat_r]) ⟨Nat.le_of_ble_eq_true rfl, Nat.le_of_ble_eq_true rfl⟩ ⟨show kc + 2 ≤ 601024 by omega, show ks + 12 ≤ 7293034 by omega⟩ (fun z hz => ?_)
  have hDz : LD mo (s_Z h2 z) := hD2.Z hz
  show AL b L xs nm l g sz (kc + rmL_clock.cells) (ks + rmL_clock.slots) (LW g mo (s_Z h2 z) S o2) 765 _ _
  refine ag_istore _ dL_law_765 (show 5 < 7 by decide) rfl ?_
  refine ag_aload_n 3 dL_law_767 rfl ?_
  refine al_rd (j := 1) 5 1 (by omega) hL hb rfl rfl dL_law_768 dL_law_769 dL_law_771 (by decide) dL_law_772 dL_law_773 ?_
  refine al_rd (j := 2) 5 1 (by omega) hL hb rfl rfl dL_law_774 dL_law_775 dL_law_777 (by decide) dL_law_778 dL_law_779 ?_
  refine ag_callV 7 (some mo) [.int (xs (i + 1)), .int (xs (i + 2))] 2 rfl (LW_mo hDz) rfl rfl (ct9 (g := g) (o := o2) hDz (ctX9_clock (sz := t_sz (s_Z h2 z)) hl S (xs (i + 1)) (xs (i + 2)) h9)) ⟨wl5 (i := 152) rfl rfl, (ciX9_clock).1, (ciX9_clock).2.1, (ciX9_clock).2.2⟩ (wl5 (i := 153) rfl rfl) (wl5 (i := 154) rfl rfl) dL_law_780 rfl rfl (by simp [cat_q, cat_i, cat_l, cat_r]) ⟨Nat.le_of_ble_eq_true rfl, Nat.le_of_ble_eq_true rfl⟩ ⟨show kc + 2 + 0 ≤ 601024 by omega, show ks + 12 + 0 ≤ 7293034 by omega⟩ (fun _ => ?_)
  refine ag_istore _ dL_law_783 (show 6 < 7 by decide) rfl ?_
  refine ag_aload_n 4 dL_law_785 rfl ?_
  refine ag_callV 7 (some mo) [] 0 rfl (LW_mo hDz) rfl rfl (ct9t (g := g) (o := o2) hDz (ctX9_thrown (sz := t_sz (s_Z h2 z)) hl S2 (thr47 h47))) ⟨wl5 (i := 5) rfl rfl, ciX9_thrown.1, ciX9_thrown.2.1, ciX9_thrown.2.2⟩ (wl5 (i := 6) rfl rfl) (wl5 (i := 7) rfl rfl) dL_law_786 rfl rfl (by simp [cat_q, cat_i, cat_l, cat_r]) ⟨Nat.le_of_ble_eq_true rfl, Nat.le_of_ble_eq_true rfl⟩ ⟨show kc + 2 + 0 + 0 ≤ 601024 by omega, show ks + 12 + 0 + 0 ≤ 7293034 by omega⟩ (fun _ => ?_)
  refine ag_iload 1 dL_law_789 rfl ?_
  refine ag_icmp_eq 796 dL_law_791 (by decide) (fun _ => ?_) (fun c => absurd rfl c)
  refine ag_iload 1 dL_law_796 rfl ?_
  refine ag_if_ne 813 dL_law_798 (by decide) (fun _ => ?_) (fun h0 => ?_)
  · refine ag_goto 1647 dL_law_813 (by decide) ?_
    refine ag_lv [2, 3, 4, 5, 6] rfl ?_
    exact ag_widen (kc + 200) (ks + 1000) (show kc + 2 + 0 + 0 ≤ kc + 200 by omega) (show ks + 12 + 0 + 0 ≤ ks + 1000 by omega) (K z hz)
  · refine ag_aload_n 3 dL_law_801 rfl ?_
    refine ag_iconst (0 : Int32) dL_law_802 (by decide) ?_
    refine ag_lald (LW_out hDz) vin0 dL_law_803 ?_
    refine ag_iload 0 dL_law_804 rfl ?_
    refine ag_i2l dL_law_806 ?_
    refine ag_lcmp_eq 813 dL_law_807 dL_law_808 (by decide) (fun _ => ?_) (fun c => absurd (hout h0) c)
    refine ag_goto 1647 dL_law_813 (by decide) ?_
    refine ag_lv [2, 3, 4, 5, 6] rfl ?_
    exact ag_widen (kc + 200) (ks + 1000) (show kc + 2 + 0 + 0 ≤ kc + 200 by omega) (show ks + 12 + 0 + 0 ≤ ks + 1000 by omega) (K z hz)
set_option maxHeartbeats 4000000 in
set_option maxRecDepth 100000 in
theorem lc_score {b L : Nat} {xs : Nat → Int32} {nm : String} {l : Launch} {g : xG} {sz kc ks : Nat} (hl : l.stackTraces = false) {mo t i : Nat} {h h2 : TH} {S S2 : MS} {o o2 : Nat → Int64} {kv : Int32} {r9 : Int32} (hL : L ≤ 3072) (hb : b < sz) (hi : i + 6 ≤ L) (hD2 : LD mo h2) (hr : kc + 200 ≤ 601024 ∧ ks + 1000 ≤ 7293034)
    (hW : WT yL_score ML_score hhL_score rmL_score l g [va_rf (some t), .int (xs (i + 1)), .ref (mo + 39)] (LW g mo h S o) kv (LW g mo h2 S o2)) (h9 : fX9_score S (xs (i + 1)) = some (r9, S2)) (h47 : m_i S2 47 = kv) (hout : kv = 0 → o2 0 = r9.toInt64)
    (K : ∀ z, t_sz h2 ≤ z → AL b L xs nm l g sz (kc + 200) (ks + 1000) (LW g mo (s_Z h2 z) S2 o2) 1647 (lvL t mo b (nI i)) []) : AL b L xs nm l g sz kc ks (LW g mo h S o) 816 (lvL t mo b (nI i)) [] := by
  refine ag_qload_n 3 dL_law_816 rfl ?_
  refine al_rd (j := 1) 4 0 (by omega) hL hb rfl rfl dL_law_817 dL_law_818 dL_law_820 (by decide) dL_law_821 dL_law_822 ?_
  refine ag_aload_n 1 dL_law_823 rfl ?_
  refine agl_call (fun s args c h => h.2.2) [va_rf (some t), .int (xs (i + 1)), .ref (mo + 39)] 3 hW ⟨wl3 (i := 88) rfl rfl, (ciL_score).1, (ciL_score).2.1, (ciL_score).2.2⟩ (wl3 (i := 89) rfl rfl) dL_law_824 rfl rfl (by simp [cat_q, cat_i, cat_l, cat_r]) ⟨Nat.le_of_ble_eq_true rfl, Nat.le_of_ble_eq_true rfl⟩ ⟨show kc + 1 ≤ 601024 by omega, show ks + 6 ≤ 7293034 by omega⟩ (fun z hz => ?_)
  have hDz : LD mo (s_Z h2 z) := hD2.Z hz
  show AL b L xs nm l g sz (kc + rmL_score.cells) (ks + rmL_score.slots) (LW g mo (s_Z h2 z) S o2) 827 _ _
  refine ag_istore _ dL_law_827 (show 5 < 7 by decide) rfl ?_
  refine ag_aload_n 3 dL_law_829 rfl ?_
  refine al_rd (j := 1) 5 1 (by omega) hL hb rfl rfl dL_law_830 dL_law_831 dL_law_833 (by decide) dL_law_834 dL_law_835 ?_
  refine ag_callV 7 (some mo) [.int (xs (i + 1))] 1 rfl (LW_mo hDz) rfl rfl (ct9 (g := g) (o := o2) hDz (ctX9_score (sz := t_sz (s_Z h2 z)) hl S (xs (i + 1)) h9)) ⟨wl5 (i := 156) rfl rfl, (ciX9_score).1, (ciX9_score).2.1, (ciX9_score).2.2⟩ (wl5 (i := 157) rfl rfl) (wl5 (i := 158) rfl rfl) dL_law_836 rfl rfl (by simp [cat_q, cat_i, cat_l, cat_r]) ⟨Nat.le_of_ble_eq_true rfl, Nat.le_of_ble_eq_true rfl⟩ ⟨show kc + 1 + 0 ≤ 601024 by omega, show ks + 6 + 0 ≤ 7293034 by omega⟩ (fun _ => ?_)
  refine ag_istore _ dL_law_839 (show 6 < 7 by decide) rfl ?_
  refine ag_aload_n 4 dL_law_841 rfl ?_
  refine ag_callV 7 (some mo) [] 0 rfl (LW_mo hDz) rfl rfl (ct9t (g := g) (o := o2) hDz (ctX9_thrown (sz := t_sz (s_Z h2 z)) hl S2 (thr47 h47))) ⟨wl5 (i := 5) rfl rfl, ciX9_thrown.1, ciX9_thrown.2.1, ciX9_thrown.2.2⟩ (wl5 (i := 6) rfl rfl) (wl5 (i := 7) rfl rfl) dL_law_842 rfl rfl (by simp [cat_q, cat_i, cat_l, cat_r]) ⟨Nat.le_of_ble_eq_true rfl, Nat.le_of_ble_eq_true rfl⟩ ⟨show kc + 1 + 0 + 0 ≤ 601024 by omega, show ks + 6 + 0 + 0 ≤ 7293034 by omega⟩ (fun _ => ?_)
  refine ag_iload 1 dL_law_845 rfl ?_
  refine ag_icmp_eq 852 dL_law_847 (by decide) (fun _ => ?_) (fun c => absurd rfl c)
  refine ag_iload 1 dL_law_852 rfl ?_
  refine ag_if_ne 869 dL_law_854 (by decide) (fun _ => ?_) (fun h0 => ?_)
  · refine ag_goto 1647 dL_law_869 (by decide) ?_
    refine ag_lv [2, 3, 4, 5, 6] rfl ?_
    exact ag_widen (kc + 200) (ks + 1000) (show kc + 1 + 0 + 0 ≤ kc + 200 by omega) (show ks + 6 + 0 + 0 ≤ ks + 1000 by omega) (K z hz)
  · refine ag_aload_n 3 dL_law_857 rfl ?_
    refine ag_iconst (0 : Int32) dL_law_858 (by decide) ?_
    refine ag_lald (LW_out hDz) vin0 dL_law_859 ?_
    refine ag_iload 0 dL_law_860 rfl ?_
    refine ag_i2l dL_law_862 ?_
    refine ag_lcmp_eq 869 dL_law_863 dL_law_864 (by decide) (fun _ => ?_) (fun c => absurd (hout h0) c)
    refine ag_goto 1647 dL_law_869 (by decide) ?_
    refine ag_lv [2, 3, 4, 5, 6] rfl ?_
    exact ag_widen (kc + 200) (ks + 1000) (show kc + 1 + 0 + 0 ≤ kc + 200 by omega) (show ks + 6 + 0 + 0 ≤ ks + 1000 by omega) (K z hz)
theorem tn_player {b L : Nat} {xs : Nat → Int32} {nm : String} {l : Launch} {g : xG} {sz kc ks : Nat} (hl : l.stackTraces = false) {mo t i : Nat} {h : TH} {S : MS} {o : Nat → Int64} {k : Nat} (hL : L ≤ 3072) (hb : b < sz) (hi : i + 6 ≤ L) (hr : kc + 200 ≤ 601024 ∧ ks + 1000 ≤ 7293034) (hk : k ≤ 4000) (hR : RR mo t k h S)
    (K : ∀ h2 S2 o2, RR mo t (k + 1) h2 S2 → AL b L xs nm l g sz (kc + 200) (ks + 1000) (LW g mo h2 S2 o2) 1647 (lvL t mo b (nI i)) []) : AL b L xs nm l g sz kc ks (LW g mo h S o) 148 (lvL t mo b (nI i)) [] := by
  have hA := call_player hR (xs (i + 1))
  obtain ⟨h2, S2, hR2, hc⟩ := hA
  have hD := hR.ld
  have hD2 := hR2.ld
  have hk7 := hR.k7
  rcases hc with ⟨v, e8, e9, z47⟩ | ⟨j, E, bb, hE, hj, e8, e9, z47⟩
  · exact lc_player hl hL hb hi hD2 hr (wtL_player_0 hl t hk7 hD hD2 (xs (i + 1)) e8) e9 z47 (fun _ => by simp [vp_updL]) (fun z hz => K _ _ _ (hR2.Z hz))
  · have hj2 : j = 0 ∨ j = 1 ∨ j = 2 := by omega
    rcases hj2 with rfl | rfl | rfl
    · have hE2 : E = eA := (Option.some.inj hE).symm
      subst hE2
      exact lc_player hl hL hb hi hD2 hr (wtL_player_1 hl t hk7 hD hD2 (xs (i + 1)) e8) e9 (z47.trans (show nI (0 + 1) = (1 : Int32) by decide)) (fun h => absurd h (by decide)) (fun z hz => K _ _ _ (hR2.Z hz))
    · have hE2 : E = eS := (Option.some.inj hE).symm
      subst hE2
      exact lc_player hl hL hb hi hD2 hr (wtL_player_2 hl t hk7 hD hD2 (xs (i + 1)) e8) e9 (z47.trans (show nI (1 + 1) = (2 : Int32) by decide)) (fun h => absurd h (by decide)) (fun z hz => K _ _ _ (hR2.Z hz))
    · cases hE
theorem tn_rank {b L : Nat} {xs : Nat → Int32} {nm : String} {l : Launch} {g : xG} {sz kc ks : Nat} (hl : l.stackTraces = false) {mo t i : Nat} {h : TH} {S : MS} {o : Nat → Int64} {k : Nat} (hL : L ≤ 3072) (hb : b < sz) (hi : i + 6 ≤ L) (hr : kc + 200 ≤ 601024 ∧ ks + 1000 ≤ 7293034) (hk : k ≤ 4000) (hR : RR mo t k h S)
    (K : ∀ h2 S2 o2, RR mo t (k + 1) h2 S2 → AL b L xs nm l g sz (kc + 200) (ks + 1000) (LW g mo h2 S2 o2) 1647 (lvL t mo b (nI i)) []) : AL b L xs nm l g sz kc ks (LW g mo h S o) 204 (lvL t mo b (nI i)) [] := by
  have hA := call_rank hR (xs (i + 1))
  obtain ⟨h2, S2, hR2, hc⟩ := hA
  have hD := hR.ld
  have hD2 := hR2.ld
  have hk7 := hR.k7
  rcases hc with ⟨v, e8, e9, z47⟩ | ⟨j, E, bb, hE, hj, e8, e9, z47⟩
  · exact lc_rank hl hL hb hi hD2 hr (wtL_rank_0 hl t hk7 hD hD2 (xs (i + 1)) e8) e9 z47 (fun _ => by simp [vp_updL]) (fun z hz => K _ _ _ (hR2.Z hz))
  · have hj2 : j = 0 ∨ j = 1 ∨ j = 2 := by omega
    rcases hj2 with rfl | rfl | rfl
    · have hE2 : E = eI := (Option.some.inj hE).symm
      subst hE2
      exact lc_rank hl hL hb hi hD2 hr (wtL_rank_1 hl t hk7 hD hD2 (xs (i + 1)) e8) e9 (z47.trans (show nI (0 + 1) = (1 : Int32) by decide)) (fun h => absurd h (by decide)) (fun z hz => K _ _ _ (hR2.Z hz))
    · cases hE
    · cases hE
theorem tn_game {b L : Nat} {xs : Nat → Int32} {nm : String} {l : Launch} {g : xG} {sz kc ks : Nat} (hl : l.stackTraces = false) {mo t i : Nat} {h : TH} {S : MS} {o : Nat → Int64} {k : Nat} (hL : L ≤ 3072) (hb : b < sz) (hi : i + 6 ≤ L) (hr : kc + 200 ≤ 601024 ∧ ks + 1000 ≤ 7293034) (hk : k ≤ 4000) (hR : RR mo t k h S)
    (K : ∀ h2 S2 o2, RR mo t (k + 1) h2 S2 → AL b L xs nm l g sz (kc + 200) (ks + 1000) (LW g mo h2 S2 o2) 1647 (lvL t mo b (nI i)) []) : AL b L xs nm l g sz kc ks (LW g mo h S o) 260 (lvL t mo b (nI i)) [] := by
  have hA := call_game (by omega) hR (xs (i + 1)) (xs (i + 2)) (xs (i + 3)) (xs (i + 4)) (xs (i + 5))
  obtain ⟨h2, S2, hR2, hc⟩ := hA
  have hD := hR.ld
  have hD2 := hR2.ld
  have hk7 := hR.k7
  rcases hc with ⟨v, e8, e9, z47⟩ | ⟨j, E, bb, hE, hj, e8, e9, z47⟩
  · exact lc_game hl hL hb hi hD2 hr (wtL_game_0 hl t hk7 hD hD2 (xs (i + 1)) (xs (i + 2)) (xs (i + 3)) (xs (i + 4)) (xs (i + 5)) e8) e9 z47 (fun _ => by simp [vp_updL]) (fun z hz => K _ _ _ (hR2.Z hz))
  · have hj2 : j = 0 ∨ j = 1 ∨ j = 2 := by omega
    rcases hj2 with rfl | rfl | rfl
    · have hE2 : E = eI := (Option.some.inj hE).symm
      subst hE2
      exact lc_game hl hL hb hi hD2 hr (wtL_game_1 hl t hk7 hD hD2 (xs (i + 1)) (xs (i + 2)) (xs (i + 3)) (xs (i + 4)) (xs (i + 5)) e8) e9 (z47.trans (show nI (0 + 1) = (1 : Int32) by decide)) (fun h => absurd h (by decide)) (fun z hz => K _ _ _ (hR2.Z hz))
    · have hE2 : E = eA := (Option.some.inj hE).symm
      subst hE2
      exact lc_game hl hL hb hi hD2 hr (wtL_game_2 hl t hk7 hD hD2 (xs (i + 1)) (xs (i + 2)) (xs (i + 3)) (xs (i + 4)) (xs (i + 5)) e8) e9 (z47.trans (show nI (1 + 1) = (2 : Int32) by decide)) (fun h => absurd h (by decide)) (fun z hz => K _ _ _ (hR2.Z hz))
    · have hE2 : E = eS := (Option.some.inj hE).symm
      subst hE2
      exact lc_game hl hL hb hi hD2 hr (wtL_game_3 hl t hk7 hD hD2 (xs (i + 1)) (xs (i + 2)) (xs (i + 3)) (xs (i + 4)) (xs (i + 5)) e8) e9 (z47.trans (show nI (2 + 1) = (3 : Int32) by decide)) (fun h => absurd h (by decide)) (fun z hz => K _ _ _ (hR2.Z hz))
theorem tn_play {b L : Nat} {xs : Nat → Int32} {nm : String} {l : Launch} {g : xG} {sz kc ks : Nat} (hl : l.stackTraces = false) {mo t i : Nat} {h : TH} {S : MS} {o : Nat → Int64} {k : Nat} (hL : L ≤ 3072) (hb : b < sz) (hi : i + 6 ≤ L) (hr : kc + 200 ≤ 601024 ∧ ks + 1000 ≤ 7293034) (hk : k ≤ 4000) (hR : RR mo t k h S)
    (K : ∀ h2 S2 o2, RR mo t (k + 1) h2 S2 → AL b L xs nm l g sz (kc + 200) (ks + 1000) (LW g mo h2 S2 o2) 1647 (lvL t mo b (nI i)) []) : AL b L xs nm l g sz kc ks (LW g mo h S o) 364 (lvL t mo b (nI i)) [] := by
  have hA := call_play (by omega) hR (xs (i + 1)) (xs (i + 2)) (xs (i + 3))
  obtain ⟨h2, S2, hR2, hc⟩ := hA
  have hD := hR.ld
  have hD2 := hR2.ld
  have hk7 := hR.k7
  rcases hc with ⟨v, e8, e9, z47⟩ | ⟨j, E, bb, hE, hj, e8, e9, z47⟩
  · exact lc_play hl hL hb hi hD2 hr (wtL_play_0 hl t hk7 hD hD2 (xs (i + 1)) (xs (i + 2)) (xs (i + 3)) e8) e9 z47 (fun _ => by simp [vp_updL]) (fun z hz => K _ _ _ (hR2.Z hz))
  · have hj2 : j = 0 ∨ j = 1 ∨ j = 2 := by omega
    rcases hj2 with rfl | rfl | rfl
    · have hE2 : E = eI := (Option.some.inj hE).symm
      subst hE2
      exact lc_play hl hL hb hi hD2 hr (wtL_play_1 hl t hk7 hD hD2 (xs (i + 1)) (xs (i + 2)) (xs (i + 3)) e8) e9 (z47.trans (show nI (0 + 1) = (1 : Int32) by decide)) (fun h => absurd h (by decide)) (fun z hz => K _ _ _ (hR2.Z hz))
    · have hE2 : E = eA := (Option.some.inj hE).symm
      subst hE2
      exact lc_play hl hL hb hi hD2 hr (wtL_play_2 hl t hk7 hD hD2 (xs (i + 1)) (xs (i + 2)) (xs (i + 3)) e8) e9 (z47.trans (show nI (1 + 1) = (2 : Int32) by decide)) (fun h => absurd h (by decide)) (fun z hz => K _ _ _ (hR2.Z hz))
    · have hE2 : E = eS := (Option.some.inj hE).symm
      subst hE2
      exact lc_play hl hL hb hi hD2 hr (wtL_play_3 hl t hk7 hD hD2 (xs (i + 1)) (xs (i + 2)) (xs (i + 3)) e8) e9 (z47.trans (show nI (2 + 1) = (3 : Int32) by decide)) (fun h => absurd h (by decide)) (fun z hz => K _ _ _ (hR2.Z hz))
theorem tn_pass {b L : Nat} {xs : Nat → Int32} {nm : String} {l : Launch} {g : xG} {sz kc ks : Nat} (hl : l.stackTraces = false) {mo t i : Nat} {h : TH} {S : MS} {o : Nat → Int64} {k : Nat} (hL : L ≤ 3072) (hb : b < sz) (hi : i + 6 ≤ L) (hr : kc + 200 ≤ 601024 ∧ ks + 1000 ≤ 7293034) (hk : k ≤ 4000) (hR : RR mo t k h S)
    (K : ∀ h2 S2 o2, RR mo t (k + 1) h2 S2 → AL b L xs nm l g sz (kc + 200) (ks + 1000) (LW g mo h2 S2 o2) 1647 (lvL t mo b (nI i)) []) : AL b L xs nm l g sz kc ks (LW g mo h S o) 444 (lvL t mo b (nI i)) [] := by
  have hA := call_pass (by omega) hR (xs (i + 1)) (xs (i + 2))
  obtain ⟨h2, S2, hR2, hc⟩ := hA
  have hD := hR.ld
  have hD2 := hR2.ld
  have hk7 := hR.k7
  rcases hc with ⟨v, e8, e9, z47⟩ | ⟨j, E, bb, hE, hj, e8, e9, z47⟩
  · exact lc_pass hl hL hb hi hD2 hr (wtL_pass_0 hl t hk7 hD hD2 (xs (i + 1)) (xs (i + 2)) e8) e9 z47 (fun _ => by simp [vp_updL]) (fun z hz => K _ _ _ (hR2.Z hz))
  · have hj2 : j = 0 ∨ j = 1 ∨ j = 2 := by omega
    rcases hj2 with rfl | rfl | rfl
    · have hE2 : E = eI := (Option.some.inj hE).symm
      subst hE2
      exact lc_pass hl hL hb hi hD2 hr (wtL_pass_1 hl t hk7 hD hD2 (xs (i + 1)) (xs (i + 2)) e8) e9 (z47.trans (show nI (0 + 1) = (1 : Int32) by decide)) (fun h => absurd h (by decide)) (fun z hz => K _ _ _ (hR2.Z hz))
    · have hE2 : E = eA := (Option.some.inj hE).symm
      subst hE2
      exact lc_pass hl hL hb hi hD2 hr (wtL_pass_2 hl t hk7 hD hD2 (xs (i + 1)) (xs (i + 2)) e8) e9 (z47.trans (show nI (1 + 1) = (2 : Int32) by decide)) (fun h => absurd h (by decide)) (fun z hz => K _ _ _ (hR2.Z hz))
    · have hE2 : E = eS := (Option.some.inj hE).symm
      subst hE2
      exact lc_pass hl hL hb hi hD2 hr (wtL_pass_3 hl t hk7 hD hD2 (xs (i + 1)) (xs (i + 2)) e8) e9 (z47.trans (show nI (2 + 1) = (3 : Int32) by decide)) (fun h => absurd h (by decide)) (fun z hz => K _ _ _ (hR2.Z hz))
theorem tn_resign {b L : Nat} {xs : Nat → Int32} {nm : String} {l : Launch} {g : xG} {sz kc ks : Nat} (hl : l.stackTraces = false) {mo t i : Nat} {h : TH} {S : MS} {o : Nat → Int64} {k : Nat} (hL : L ≤ 3072) (hb : b < sz) (hi : i + 6 ≤ L) (hr : kc + 200 ≤ 601024 ∧ ks + 1000 ≤ 7293034) (hk : k ≤ 4000) (hR : RR mo t k h S)
    (K : ∀ h2 S2 o2, RR mo t (k + 1) h2 S2 → AL b L xs nm l g sz (kc + 200) (ks + 1000) (LW g mo h2 S2 o2) 1647 (lvL t mo b (nI i)) []) : AL b L xs nm l g sz kc ks (LW g mo h S o) 512 (lvL t mo b (nI i)) [] := by
  have hA := call_resign (by omega) hR (xs (i + 1))
  obtain ⟨h2, S2, hR2, hc⟩ := hA
  have hD := hR.ld
  have hD2 := hR2.ld
  have hk7 := hR.k7
  rcases hc with ⟨v, e8, e9, z47⟩ | ⟨j, E, bb, hE, hj, e8, e9, z47⟩
  · exact lc_resign hl hL hb hi hD2 hr (wtL_resign_0 hl t hk7 hD hD2 (xs (i + 1)) e8) e9 z47 (fun _ => by simp [vp_updL]) (fun z hz => K _ _ _ (hR2.Z hz))
  · have hj2 : j = 0 ∨ j = 1 ∨ j = 2 := by omega
    rcases hj2 with rfl | rfl | rfl
    · have hE2 : E = eI := (Option.some.inj hE).symm
      subst hE2
      exact lc_resign hl hL hb hi hD2 hr (wtL_resign_1 hl t hk7 hD hD2 (xs (i + 1)) e8) e9 (z47.trans (show nI (0 + 1) = (1 : Int32) by decide)) (fun h => absurd h (by decide)) (fun z hz => K _ _ _ (hR2.Z hz))
    · have hE2 : E = eS := (Option.some.inj hE).symm
      subst hE2
      exact lc_resign hl hL hb hi hD2 hr (wtL_resign_2 hl t hk7 hD hD2 (xs (i + 1)) e8) e9 (z47.trans (show nI (1 + 1) = (2 : Int32) by decide)) (fun h => absurd h (by decide)) (fun z hz => K _ _ _ (hR2.Z hz))
    · cases hE
theorem tn_state {b L : Nat} {xs : Nat → Int32} {nm : String} {l : Launch} {g : xG} {sz kc ks : Nat} (hl : l.stackTraces = false) {mo t i : Nat} {h : TH} {S : MS} {o : Nat → Int64} {k : Nat} (hL : L ≤ 3072) (hb : b < sz) (hi : i + 6 ≤ L) (hr : kc + 200 ≤ 601024 ∧ ks + 1000 ≤ 7293034) (hk : k ≤ 4000) (hR : RR mo t k h S)
    (K : ∀ h2 S2 o2, RR mo t (k + 1) h2 S2 → AL b L xs nm l g sz (kc + 200) (ks + 1000) (LW g mo h2 S2 o2) 1647 (lvL t mo b (nI i)) []) : AL b L xs nm l g sz kc ks (LW g mo h S o) 568 (lvL t mo b (nI i)) [] := by
  have hA := call_state hR (xs (i + 1))
  obtain ⟨h2, S2, hR2, hc⟩ := hA
  have hD := hR.ld
  have hD2 := hR2.ld
  have hk7 := hR.k7
  rcases hc with ⟨v, e8, e9, z47⟩ | ⟨j, E, bb, hE, hj, e8, e9, z47⟩
  · exact lc_state hl hL hb hi hD2 hr (wtL_state_0 hl t hk7 hD hD2 (xs (i + 1)) e8) e9 z47 (fun _ => by simp [vp_updL]) (fun z hz => K _ _ _ (hR2.Z hz))
  · have hj2 : j = 0 ∨ j = 1 ∨ j = 2 := by omega
    rcases hj2 with rfl | rfl | rfl
    · have hE2 : E = eI := (Option.some.inj hE).symm
      subst hE2
      exact lc_state hl hL hb hi hD2 hr (wtL_state_1 hl t hk7 hD hD2 (xs (i + 1)) e8) e9 (z47.trans (show nI (0 + 1) = (1 : Int32) by decide)) (fun h => absurd h (by decide)) (fun z hz => K _ _ _ (hR2.Z hz))
    · cases hE
    · cases hE
theorem tn_handicap {b L : Nat} {xs : Nat → Int32} {nm : String} {l : Launch} {g : xG} {sz kc ks : Nat} (hl : l.stackTraces = false) {mo t i : Nat} {h : TH} {S : MS} {o : Nat → Int64} {k : Nat} (hL : L ≤ 3072) (hb : b < sz) (hi : i + 6 ≤ L) (hr : kc + 200 ≤ 601024 ∧ ks + 1000 ≤ 7293034) (hk : k ≤ 4000) (hR : RR mo t k h S)
    (K : ∀ h2 S2 o2, RR mo t (k + 1) h2 S2 → AL b L xs nm l g sz (kc + 200) (ks + 1000) (LW g mo h2 S2 o2) 1647 (lvL t mo b (nI i)) []) : AL b L xs nm l g sz kc ks (LW g mo h S o) 624 (lvL t mo b (nI i)) [] := by
  have hA := call_handicap hR (xs (i + 1))
  obtain ⟨h2, S2, hR2, hc⟩ := hA
  have hD := hR.ld
  have hD2 := hR2.ld
  have hk7 := hR.k7
  rcases hc with ⟨v, e8, e9, z47⟩ | ⟨j, E, bb, hE, hj, e8, e9, z47⟩
  · exact lc_handicap hl hL hb hi hD2 hr (wtL_handicap_0 hl t hk7 hD hD2 (xs (i + 1)) e8) e9 z47 (fun _ => by simp [vp_updL]) (fun z hz => K _ _ _ (hR2.Z hz))
  · have hj2 : j = 0 ∨ j = 1 ∨ j = 2 := by omega
    rcases hj2 with rfl | rfl | rfl
    · have hE2 : E = eI := (Option.some.inj hE).symm
      subst hE2
      exact lc_handicap hl hL hb hi hD2 hr (wtL_handicap_1 hl t hk7 hD hD2 (xs (i + 1)) e8) e9 (z47.trans (show nI (0 + 1) = (1 : Int32) by decide)) (fun h => absurd h (by decide)) (fun z hz => K _ _ _ (hR2.Z hz))
    · cases hE
    · cases hE
theorem tn_sign {b L : Nat} {xs : Nat → Int32} {nm : String} {l : Launch} {g : xG} {sz kc ks : Nat} (hl : l.stackTraces = false) {mo t i : Nat} {h : TH} {S : MS} {o : Nat → Int64} {k : Nat} (hL : L ≤ 3072) (hb : b < sz) (hi : i + 6 ≤ L) (hr : kc + 200 ≤ 601024 ∧ ks + 1000 ≤ 7293034) (hk : k ≤ 4000) (hR : RR mo t k h S)
    (K : ∀ h2 S2 o2, RR mo t (k + 1) h2 S2 → AL b L xs nm l g sz (kc + 200) (ks + 1000) (LW g mo h2 S2 o2) 1647 (lvL t mo b (nI i)) []) : AL b L xs nm l g sz kc ks (LW g mo h S o) 680 (lvL t mo b (nI i)) [] := by
  have hA := call_sign (by omega) hR (xs (i + 1)) (xs (i + 2))
  obtain ⟨h2, S2, hR2, hc⟩ := hA
  have hD := hR.ld
  have hD2 := hR2.ld
  have hk7 := hR.k7
  rcases hc with ⟨v, e8, e9, z47⟩ | ⟨j, E, bb, hE, hj, e8, e9, z47⟩
  · exact lc_sign hl hL hb hi hD2 hr (wtL_sign_0 hl t hk7 hD hD2 (xs (i + 1)) (xs (i + 2)) e8) e9 z47 (fun _ => by simp [vp_updL]) (fun z hz => K _ _ _ (hR2.Z hz))
  · have hj2 : j = 0 ∨ j = 1 ∨ j = 2 := by omega
    rcases hj2 with rfl | rfl | rfl
    · have hE2 : E = eI := (Option.some.inj hE).symm
      subst hE2
      exact lc_sign hl hL hb hi hD2 hr (wtL_sign_1 hl t hk7 hD hD2 (xs (i + 1)) (xs (i + 2)) e8) e9 (z47.trans (show nI (0 + 1) = (1 : Int32) by decide)) (fun h => absurd h (by decide)) (fun z hz => K _ _ _ (hR2.Z hz))
    · cases hE
    · cases hE
theorem tn_clock {b L : Nat} {xs : Nat → Int32} {nm : String} {l : Launch} {g : xG} {sz kc ks : Nat} (hl : l.stackTraces = false) {mo t i : Nat} {h : TH} {S : MS} {o : Nat → Int64} {k : Nat} (hL : L ≤ 3072) (hb : b < sz) (hi : i + 6 ≤ L) (hr : kc + 200 ≤ 601024 ∧ ks + 1000 ≤ 7293034) (hk : k ≤ 4000) (hR : RR mo t k h S)
    (K : ∀ h2 S2 o2, RR mo t (k + 1) h2 S2 → AL b L xs nm l g sz (kc + 200) (ks + 1000) (LW g mo h2 S2 o2) 1647 (lvL t mo b (nI i)) []) : AL b L xs nm l g sz kc ks (LW g mo h S o) 748 (lvL t mo b (nI i)) [] := by
  have hA := call_clock hR (xs (i + 1)) (xs (i + 2))
  obtain ⟨h2, S2, hR2, hc⟩ := hA
  have hD := hR.ld
  have hD2 := hR2.ld
  have hk7 := hR.k7
  rcases hc with ⟨v, e8, e9, z47⟩ | ⟨j, E, bb, hE, hj, e8, e9, z47⟩
  · exact lc_clock hl hL hb hi hD2 hr (wtL_clock_0 hl t hk7 hD hD2 (xs (i + 1)) (xs (i + 2)) e8) e9 z47 (fun _ => by simp [vp_updL]) (fun z hz => K _ _ _ (hR2.Z hz))
  · have hj2 : j = 0 ∨ j = 1 ∨ j = 2 := by omega
    rcases hj2 with rfl | rfl | rfl
    · have hE2 : E = eI := (Option.some.inj hE).symm
      subst hE2
      exact lc_clock hl hL hb hi hD2 hr (wtL_clock_1 hl t hk7 hD hD2 (xs (i + 1)) (xs (i + 2)) e8) e9 (z47.trans (show nI (0 + 1) = (1 : Int32) by decide)) (fun h => absurd h (by decide)) (fun z hz => K _ _ _ (hR2.Z hz))
    · cases hE
    · cases hE
theorem tn_score {b L : Nat} {xs : Nat → Int32} {nm : String} {l : Launch} {g : xG} {sz kc ks : Nat} (hl : l.stackTraces = false) {mo t i : Nat} {h : TH} {S : MS} {o : Nat → Int64} {k : Nat} (hL : L ≤ 3072) (hb : b < sz) (hi : i + 6 ≤ L) (hr : kc + 200 ≤ 601024 ∧ ks + 1000 ≤ 7293034) (hk : k ≤ 4000) (hR : RR mo t k h S)
    (K : ∀ h2 S2 o2, RR mo t (k + 1) h2 S2 → AL b L xs nm l g sz (kc + 200) (ks + 1000) (LW g mo h2 S2 o2) 1647 (lvL t mo b (nI i)) []) : AL b L xs nm l g sz kc ks (LW g mo h S o) 816 (lvL t mo b (nI i)) [] := by
  have hA := call_score (by omega) hR (xs (i + 1))
  obtain ⟨h2, S2, hR2, hc⟩ := hA
  have hD := hR.ld
  have hD2 := hR2.ld
  have hk7 := hR.k7
  rcases hc with ⟨v, e8, e9, z47⟩ | ⟨j, E, bb, hE, hj, e8, e9, z47⟩
  · exact lc_score hl hL hb hi hD2 hr (wtL_score_0 hl t hk7 hD hD2 (xs (i + 1)) e8) e9 z47 (fun _ => by simp [vp_updL]) (fun z hz => K _ _ _ (hR2.Z hz))
  · have hj2 : j = 0 ∨ j = 1 ∨ j = 2 := by omega
    rcases hj2 with rfl | rfl | rfl
    · have hE2 : E = eI := (Option.some.inj hE).symm
      subst hE2
      exact lc_score hl hL hb hi hD2 hr (wtL_score_1 hl t hk7 hD hD2 (xs (i + 1)) e8) e9 (z47.trans (show nI (0 + 1) = (1 : Int32) by decide)) (fun h => absurd h (by decide)) (fun z hz => K _ _ _ (hR2.Z hz))
    · cases hE
    · cases hE
