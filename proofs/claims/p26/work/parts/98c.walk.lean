/-! The law's walk. -/
set_option maxHeartbeats 4000000 in
set_option maxRecDepth 100000 in
theorem wkL_law_212 {l : Launch} {g : xG} {nm : String} {sz : Nat} {b lo t Ls : Nat} {xs : Nat → Int32} {K : Int32 → TH → MS → Prop} {kc ks : Nat} (hl : l.stackTraces = false) (hb : b + 8 < lo) (hb0 : b < (x0L sz).1 ∧ (x0L sz).2 b = none) (h : TH) (L : MS) (a13 : Int32) (hD : LDp lo h) (hc : kc + (1125) ≤ 600000 ∧ ks + (6750) ≤ 7300000) (hf : gL_law_212 lo t Ls xs K h L a13) : AWG (XLw b Ls xs) (lw_Z) (ML_law nm) room_1 l g (x0L sz) kc ks (LW g lo h L) 212 [(1, va_rf (some t)), (13, .int a13)] [] := by
  rw [gL_law_212] at hf
  refine ag_iload 1 dL_law_212 rfl ?_
  refine ag_if_eq 374 dL_law_214 (by decide) (fun c1 => ?_) (fun c1 => ?_)
  · rw [if_pos c1] at hf
    refine ag_iconst (0 : Int32) dL_law_374 (by decide) ?_
    rw [hf]
    exact al_ret dL_law_375 ⟨show kc + 0 ≤ 600086 by omega, show ks + 0 ≤ 7301441 by omega⟩
  · rw [if_neg c1] at hf
    refine ag_qload_n 0 dL_law_217 rfl ?_
    refine ag_iconst (0 : Int32) dL_law_218 (by decide) ?_
    refine ag_iconst (-1 : Int32) dL_law_219 (by decide) ?_
    refine ag_iconst (0 : Int32) dL_law_220 (by decide) ?_
    refine ag_iconst (0 : Int32) dL_law_221 (by decide) ?_
    refine ag_iconst (0 : Int32) dL_law_222 (by decide) ?_
    refine ag_iconst (0 : Int32) dL_law_223 (by decide) ?_
    refine ag_callRH (fun s a c h => h.2.1) [va_rf (some t), .int (0 : Int32), .int (-1 : Int32), .int (0 : Int32), .int (0 : Int32), .int (0 : Int32), .int (0 : Int32)] 7 (ctL_does hl _ _ _ _ _ _ _ _ hD hf) ⟨wl1 (i := 129) rfl rfl, ciL_does⟩ (wl1 (i := 130) rfl rfl) dL_law_224 rfl rfl (Nat.le_of_ble_eq_true rfl) ⟨Nat.le_of_ble_eq_true rfl, Nat.le_of_ble_eq_true rfl⟩ ⟨show kc + 125 ≤ 600086 by omega, show ks + 750 ≤ 7301441 by omega⟩ (fun v3 h4 L5 hf hD6 => ?_)
    refine ag_sipush (-200 : Int32) dL_law_227 (by decide) ?_
    refine ag_icmp_ne 374 dL_law_230 (by decide) (fun c7 => ?_) (fun c7 => ?_)
    · rw [if_neg c7] at hf
      refine ag_iconst (0 : Int32) dL_law_374 (by decide) ?_
      rw [hf]
      exact al_ret dL_law_375 ⟨show kc + 125 + 0 ≤ 600086 by omega, show ks + 750 + 0 ≤ 7301441 by omega⟩
    · rw [if_pos c7] at hf
      refine ag_qload_n 0 dL_law_233 rfl ?_
      refine ag_iconst (1 : Int32) dL_law_234 (by decide) ?_
      refine ag_iconst (-1 : Int32) dL_law_235 (by decide) ?_
      refine ag_iconst (0 : Int32) dL_law_236 (by decide) ?_
      refine ag_iconst (0 : Int32) dL_law_237 (by decide) ?_
      refine ag_iconst (0 : Int32) dL_law_238 (by decide) ?_
      refine ag_iconst (0 : Int32) dL_law_239 (by decide) ?_
      refine ag_callRH (fun s a c h => h.2.1) [va_rf (some t), .int (1 : Int32), .int (-1 : Int32), .int (0 : Int32), .int (0 : Int32), .int (0 : Int32), .int (0 : Int32)] 7 (ctL_does hl _ _ _ _ _ _ _ _ hD6 hf) ⟨wl1 (i := 129) rfl rfl, ciL_does⟩ (wl1 (i := 130) rfl rfl) dL_law_240 rfl rfl (Nat.le_of_ble_eq_true rfl) ⟨Nat.le_of_ble_eq_true rfl, Nat.le_of_ble_eq_true rfl⟩ ⟨show kc + 125 + 125 ≤ 600086 by omega, show ks + 750 + 750 ≤ 7301441 by omega⟩ (fun v9 h10 L11 hf hD12 => ?_)
      refine ag_sipush (-300 : Int32) dL_law_243 (by decide) ?_
      refine ag_icmp_ne 374 dL_law_246 (by decide) (fun c13 => ?_) (fun c13 => ?_)
      · rw [if_neg c13] at hf
        refine ag_iconst (0 : Int32) dL_law_374 (by decide) ?_
        rw [hf]
        exact al_ret dL_law_375 ⟨show kc + 125 + 125 + 0 ≤ 600086 by omega, show ks + 750 + 750 + 0 ≤ 7301441 by omega⟩
      · rw [if_pos c13] at hf
        refine ag_qload_n 0 dL_law_249 rfl ?_
        refine ag_iconst (2 : Int32) dL_law_250 (by decide) ?_
        refine ag_bipush (16 : Int32) dL_law_251 (by decide) ?_
        refine ag_iconst (0 : Int32) dL_law_253 (by decide) ?_
        refine ag_iconst (0 : Int32) dL_law_254 (by decide) ?_
        refine ag_iconst (0 : Int32) dL_law_255 (by decide) ?_
        refine ag_iconst (0 : Int32) dL_law_256 (by decide) ?_
        refine ag_callRH (fun s a c h => h.2.1) [va_rf (some t), .int (2 : Int32), .int (16 : Int32), .int (0 : Int32), .int (0 : Int32), .int (0 : Int32), .int (0 : Int32)] 7 (ctL_does hl _ _ _ _ _ _ _ _ hD12 hf) ⟨wl1 (i := 129) rfl rfl, ciL_does⟩ (wl1 (i := 130) rfl rfl) dL_law_257 rfl rfl (Nat.le_of_ble_eq_true rfl) ⟨Nat.le_of_ble_eq_true rfl, Nat.le_of_ble_eq_true rfl⟩ ⟨show kc + 125 + 125 + 125 ≤ 600086 by omega, show ks + 750 + 750 + 750 ≤ 7301441 by omega⟩ (fun v15 h16 L17 hf hD18 => ?_)
        refine ag_sipush (-300 : Int32) dL_law_260 (by decide) ?_
        refine ag_icmp_ne 374 dL_law_263 (by decide) (fun c19 => ?_) (fun c19 => ?_)
        · rw [if_neg c19] at hf
          refine ag_iconst (0 : Int32) dL_law_374 (by decide) ?_
          rw [hf]
          exact al_ret dL_law_375 ⟨show kc + 125 + 125 + 125 + 0 ≤ 600086 by omega, show ks + 750 + 750 + 750 + 0 ≤ 7301441 by omega⟩
        · rw [if_pos c19] at hf
          refine ag_qload_n 0 dL_law_266 rfl ?_
          refine ag_iconst (3 : Int32) dL_law_267 (by decide) ?_
          refine ag_iconst (-1 : Int32) dL_law_268 (by decide) ?_
          refine ag_iconst (0 : Int32) dL_law_269 (by decide) ?_
          refine ag_iconst (0 : Int32) dL_law_270 (by decide) ?_
          refine ag_iconst (0 : Int32) dL_law_271 (by decide) ?_
          refine ag_iconst (0 : Int32) dL_law_272 (by decide) ?_
          refine ag_callRH (fun s a c h => h.2.1) [va_rf (some t), .int (3 : Int32), .int (-1 : Int32), .int (0 : Int32), .int (0 : Int32), .int (0 : Int32), .int (0 : Int32)] 7 (ctL_does hl _ _ _ _ _ _ _ _ hD18 hf) ⟨wl1 (i := 129) rfl rfl, ciL_does⟩ (wl1 (i := 130) rfl rfl) dL_law_273 rfl rfl (Nat.le_of_ble_eq_true rfl) ⟨Nat.le_of_ble_eq_true rfl, Nat.le_of_ble_eq_true rfl⟩ ⟨show kc + 125 + 125 + 125 + 125 ≤ 600086 by omega, show ks + 750 + 750 + 750 + 750 ≤ 7301441 by omega⟩ (fun v21 h22 L23 hf hD24 => ?_)
          refine ag_sipush (-300 : Int32) dL_law_276 (by decide) ?_
          refine ag_icmp_ne 374 dL_law_279 (by decide) (fun c25 => ?_) (fun c25 => ?_)
          · rw [if_neg c25] at hf
            refine ag_iconst (0 : Int32) dL_law_374 (by decide) ?_
            rw [hf]
            exact al_ret dL_law_375 ⟨show kc + 125 + 125 + 125 + 125 + 0 ≤ 600086 by omega, show ks + 750 + 750 + 750 + 750 + 0 ≤ 7301441 by omega⟩
          · rw [if_pos c25] at hf
            refine ag_qload_n 0 dL_law_282 rfl ?_
            refine ag_iconst (5 : Int32) dL_law_283 (by decide) ?_
            refine ag_bipush (16 : Int32) dL_law_284 (by decide) ?_
            refine ag_iconst (0 : Int32) dL_law_286 (by decide) ?_
            refine ag_iconst (0 : Int32) dL_law_287 (by decide) ?_
            refine ag_iconst (0 : Int32) dL_law_288 (by decide) ?_
            refine ag_iconst (0 : Int32) dL_law_289 (by decide) ?_
            refine ag_callRH (fun s a c h => h.2.1) [va_rf (some t), .int (5 : Int32), .int (16 : Int32), .int (0 : Int32), .int (0 : Int32), .int (0 : Int32), .int (0 : Int32)] 7 (ctL_does hl _ _ _ _ _ _ _ _ hD24 hf) ⟨wl1 (i := 129) rfl rfl, ciL_does⟩ (wl1 (i := 130) rfl rfl) dL_law_290 rfl rfl (Nat.le_of_ble_eq_true rfl) ⟨Nat.le_of_ble_eq_true rfl, Nat.le_of_ble_eq_true rfl⟩ ⟨show kc + 125 + 125 + 125 + 125 + 125 ≤ 600086 by omega, show ks + 750 + 750 + 750 + 750 + 750 ≤ 7301441 by omega⟩ (fun v27 h28 L29 hf hD30 => ?_)
            refine ag_sipush (-300 : Int32) dL_law_293 (by decide) ?_
            refine ag_icmp_ne 374 dL_law_296 (by decide) (fun c31 => ?_) (fun c31 => ?_)
            · rw [if_neg c31] at hf
              refine ag_iconst (0 : Int32) dL_law_374 (by decide) ?_
              rw [hf]
              exact al_ret dL_law_375 ⟨show kc + 125 + 125 + 125 + 125 + 125 + 0 ≤ 600086 by omega, show ks + 750 + 750 + 750 + 750 + 750 + 0 ≤ 7301441 by omega⟩
            · rw [if_pos c31] at hf
              refine ag_qload_n 0 dL_law_299 rfl ?_
              refine ag_bipush (6 : Int32) dL_law_300 (by decide) ?_
              refine ag_bipush (16 : Int32) dL_law_302 (by decide) ?_
              refine ag_iconst (0 : Int32) dL_law_304 (by decide) ?_
              refine ag_iconst (0 : Int32) dL_law_305 (by decide) ?_
              refine ag_iconst (0 : Int32) dL_law_306 (by decide) ?_
              refine ag_iconst (0 : Int32) dL_law_307 (by decide) ?_
              refine ag_callRH (fun s a c h => h.2.1) [va_rf (some t), .int (6 : Int32), .int (16 : Int32), .int (0 : Int32), .int (0 : Int32), .int (0 : Int32), .int (0 : Int32)] 7 (ctL_does hl _ _ _ _ _ _ _ _ hD30 hf) ⟨wl1 (i := 129) rfl rfl, ciL_does⟩ (wl1 (i := 130) rfl rfl) dL_law_308 rfl rfl (Nat.le_of_ble_eq_true rfl) ⟨Nat.le_of_ble_eq_true rfl, Nat.le_of_ble_eq_true rfl⟩ ⟨show kc + 125 + 125 + 125 + 125 + 125 + 125 ≤ 600086 by omega, show ks + 750 + 750 + 750 + 750 + 750 + 750 ≤ 7301441 by omega⟩ (fun v33 h34 L35 hf hD36 => ?_)
              refine ag_sipush (-300 : Int32) dL_law_311 (by decide) ?_
              refine ag_icmp_ne 374 dL_law_314 (by decide) (fun c37 => ?_) (fun c37 => ?_)
              · rw [if_neg c37] at hf
                refine ag_iconst (0 : Int32) dL_law_374 (by decide) ?_
                rw [hf]
                exact al_ret dL_law_375 ⟨show kc + 125 + 125 + 125 + 125 + 125 + 125 + 0 ≤ 600086 by omega, show ks + 750 + 750 + 750 + 750 + 750 + 750 + 0 ≤ 7301441 by omega⟩
              · rw [if_pos c37] at hf
                refine ag_qload_n 0 dL_law_317 rfl ?_
                refine ag_bipush (9 : Int32) dL_law_318 (by decide) ?_
                refine ag_bipush (60 : Int32) dL_law_320 (by decide) ?_
                refine ag_iconst (0 : Int32) dL_law_322 (by decide) ?_
                refine ag_iconst (0 : Int32) dL_law_323 (by decide) ?_
                refine ag_iconst (0 : Int32) dL_law_324 (by decide) ?_
                refine ag_iconst (0 : Int32) dL_law_325 (by decide) ?_
                refine ag_callRH (fun s a c h => h.2.1) [va_rf (some t), .int (9 : Int32), .int (60 : Int32), .int (0 : Int32), .int (0 : Int32), .int (0 : Int32), .int (0 : Int32)] 7 (ctL_does hl _ _ _ _ _ _ _ _ hD36 hf) ⟨wl1 (i := 129) rfl rfl, ciL_does⟩ (wl1 (i := 130) rfl rfl) dL_law_326 rfl rfl (Nat.le_of_ble_eq_true rfl) ⟨Nat.le_of_ble_eq_true rfl, Nat.le_of_ble_eq_true rfl⟩ ⟨show kc + 125 + 125 + 125 + 125 + 125 + 125 + 125 ≤ 600086 by omega, show ks + 750 + 750 + 750 + 750 + 750 + 750 + 750 ≤ 7301441 by omega⟩ (fun v39 h40 L41 hf hD42 => ?_)
                refine ag_sipush (-300 : Int32) dL_law_329 (by decide) ?_
                refine ag_icmp_ne 374 dL_law_332 (by decide) (fun c43 => ?_) (fun c43 => ?_)
                · rw [if_neg c43] at hf
                  refine ag_iconst (0 : Int32) dL_law_374 (by decide) ?_
                  rw [hf]
                  exact al_ret dL_law_375 ⟨show kc + 125 + 125 + 125 + 125 + 125 + 125 + 125 + 0 ≤ 600086 by omega, show ks + 750 + 750 + 750 + 750 + 750 + 750 + 750 + 0 ≤ 7301441 by omega⟩
                · rw [if_pos c43] at hf
                  refine ag_qload_n 0 dL_law_335 rfl ?_
                  refine ag_bipush (10 : Int32) dL_law_336 (by decide) ?_
                  refine ag_bipush (16 : Int32) dL_law_338 (by decide) ?_
                  refine ag_iconst (0 : Int32) dL_law_340 (by decide) ?_
                  refine ag_iconst (1 : Int32) dL_law_341 (by decide) ?_
                  refine ag_iconst (0 : Int32) dL_law_342 (by decide) ?_
                  refine ag_iconst (0 : Int32) dL_law_343 (by decide) ?_
                  refine ag_callRH (fun s a c h => h.2.1) [va_rf (some t), .int (10 : Int32), .int (16 : Int32), .int (0 : Int32), .int (1 : Int32), .int (0 : Int32), .int (0 : Int32)] 7 (ctL_does hl _ _ _ _ _ _ _ _ hD42 hf) ⟨wl1 (i := 129) rfl rfl, ciL_does⟩ (wl1 (i := 130) rfl rfl) dL_law_344 rfl rfl (Nat.le_of_ble_eq_true rfl) ⟨Nat.le_of_ble_eq_true rfl, Nat.le_of_ble_eq_true rfl⟩ ⟨show kc + 125 + 125 + 125 + 125 + 125 + 125 + 125 + 125 ≤ 600086 by omega, show ks + 750 + 750 + 750 + 750 + 750 + 750 + 750 + 750 ≤ 7301441 by omega⟩ (fun v45 h46 L47 hf hD48 => ?_)
                  refine ag_sipush (-300 : Int32) dL_law_347 (by decide) ?_
                  refine ag_icmp_ne 374 dL_law_350 (by decide) (fun c49 => ?_) (fun c49 => ?_)
                  · rw [if_neg c49] at hf
                    refine ag_iconst (0 : Int32) dL_law_374 (by decide) ?_
                    rw [hf]
                    exact al_ret dL_law_375 ⟨show kc + 125 + 125 + 125 + 125 + 125 + 125 + 125 + 125 + 0 ≤ 600086 by omega, show ks + 750 + 750 + 750 + 750 + 750 + 750 + 750 + 750 + 0 ≤ 7301441 by omega⟩
                  · rw [if_pos c49] at hf
                    refine ag_qload_n 0 dL_law_353 rfl ?_
                    refine ag_bipush (11 : Int32) dL_law_354 (by decide) ?_
                    refine ag_iconst (-1 : Int32) dL_law_356 (by decide) ?_
                    refine ag_iconst (0 : Int32) dL_law_357 (by decide) ?_
                    refine ag_iconst (4 : Int32) dL_law_358 (by decide) ?_
                    refine ag_iconst (0 : Int32) dL_law_359 (by decide) ?_
                    refine ag_iconst (0 : Int32) dL_law_360 (by decide) ?_
                    refine ag_callRH (fun s a c h => h.2.1) [va_rf (some t), .int (11 : Int32), .int (-1 : Int32), .int (0 : Int32), .int (4 : Int32), .int (0 : Int32), .int (0 : Int32)] 7 (ctL_does hl _ _ _ _ _ _ _ _ hD48 hf) ⟨wl1 (i := 129) rfl rfl, ciL_does⟩ (wl1 (i := 130) rfl rfl) dL_law_361 rfl rfl (Nat.le_of_ble_eq_true rfl) ⟨Nat.le_of_ble_eq_true rfl, Nat.le_of_ble_eq_true rfl⟩ ⟨show kc + 125 + 125 + 125 + 125 + 125 + 125 + 125 + 125 + 125 ≤ 600086 by omega, show ks + 750 + 750 + 750 + 750 + 750 + 750 + 750 + 750 + 750 ≤ 7301441 by omega⟩ (fun v51 h52 L53 hf hD54 => ?_)
                    refine ag_sipush (-300 : Int32) dL_law_364 (by decide) ?_
                    refine ag_icmp_ne 374 dL_law_367 (by decide) (fun c55 => ?_) (fun c55 => ?_)
                    · rw [if_neg c55] at hf
                      refine ag_iconst (0 : Int32) dL_law_374 (by decide) ?_
                      rw [hf]
                      exact al_ret dL_law_375 ⟨show kc + 125 + 125 + 125 + 125 + 125 + 125 + 125 + 125 + 125 + 0 ≤ 600086 by omega, show ks + 750 + 750 + 750 + 750 + 750 + 750 + 750 + 750 + 750 + 0 ≤ 7301441 by omega⟩
                    · rw [if_pos c55] at hf
                      refine ag_iconst (1 : Int32) dL_law_370 (by decide) ?_
                      refine ag_goto 375 dL_law_371 (by decide) ?_
                      rw [hf]
                      exact al_ret dL_law_375 ⟨show kc + 125 + 125 + 125 + 125 + 125 + 125 + 125 + 125 + 125 + 0 ≤ 600086 by omega, show ks + 750 + 750 + 750 + 750 + 750 + 750 + 750 + 750 + 750 + 0 ≤ 7301441 by omega⟩
set_option maxHeartbeats 4000000 in
set_option maxRecDepth 100000 in
theorem wkL_law_204 {l : Launch} {g : xG} {nm : String} {sz : Nat} {b lo t Ls : Nat} {xs : Nat → Int32} {K : Int32 → TH → MS → Prop} {kc ks : Nat} {Y Y2 : Nat} (hl : l.stackTraces = false) (hb : b + 8 < lo) (hb0 : b < (x0L sz).1 ∧ (x0L sz).2 b = none) (k121 : TH → MS → Int32 → Int32 → Prop) (hk121 : ∀ (kc ks : Nat) (h : TH) (L : MS) (a13 : Int32) (a14 : Int32), LDp lo h → (kc + Y ≤ 600000 ∧ ks + Y2 ≤ 7300000) → k121 h L a13 a14 → AWG (XLw b Ls xs) (lw_Z) (ML_law nm) room_1 l g (x0L sz) kc ks (LW g lo h L) 121 [(0, .ref b), (1, va_rf (some t)), (2, .ref (lo + 0)), (3, .ref (lo + 1)), (4, .ref (lo + 2)), (5, .ref (lo + 3)), (6, .ref (lo + 4)), (7, .ref (lo + 5)), (8, .ref (lo + 6)), (9, .ref (lo + 7)), (10, .ref (lo + 8)), (11, .ref (lo + 9)), (12, .ref (lo + 10)), (13, .int a13), (14, .int a14)] []) (hY : 1125 ≤ Y ∧ 6750 ≤ Y2) (h : TH) (L : MS) (a14 : Int32) (s0 : Int32) (hD : LDp lo h) (hc : kc + (0 + Y) ≤ 600000 ∧ ks + (0 + Y2) ≤ 7300000) (hf : gL_law_204 lo t Ls xs K k121 h L a14 s0) : AWG (XLw b Ls xs) (lw_Z) (ML_law nm) room_1 l g (x0L sz) kc ks (LW g lo h L) 204 [(0, .ref b), (1, va_rf (some t)), (2, .ref (lo + 0)), (3, .ref (lo + 1)), (4, .ref (lo + 2)), (5, .ref (lo + 3)), (6, .ref (lo + 4)), (7, .ref (lo + 5)), (8, .ref (lo + 6)), (9, .ref (lo + 7)), (10, .ref (lo + 8)), (11, .ref (lo + 9)), (12, .ref (lo + 10)), (14, .int a14)] [.int s0] := by
  rw [gL_law_204] at hf
  refine ag_istore [(13, .int s0), (0, .ref b), (1, va_rf (some t)), (2, .ref (lo + 0)), (3, .ref (lo + 1)), (4, .ref (lo + 2)), (5, .ref (lo + 3)), (6, .ref (lo + 4)), (7, .ref (lo + 5)), (8, .ref (lo + 6)), (9, .ref (lo + 7)), (10, .ref (lo + 8)), (11, .ref (lo + 9)), (12, .ref (lo + 10)), (14, .int a14)] dL_law_204 (show 13 < 15 by decide) rfl ?_
  refine ag_iinc [(14, .int (a14 + (1 : Int32))), (13, .int s0), (0, .ref b), (1, va_rf (some t)), (2, .ref (lo + 0)), (3, .ref (lo + 1)), (4, .ref (lo + 2)), (5, .ref (lo + 3)), (6, .ref (lo + 4)), (7, .ref (lo + 5)), (8, .ref (lo + 6)), (9, .ref (lo + 7)), (10, .ref (lo + 8)), (11, .ref (lo + 9)), (12, .ref (lo + 10))] 14 dL_law_206 rfl rfl (show 14 < 15 by decide) rfl ?_
  refine ag_goto 121 dL_law_209 (by decide) ?_
  refine ag_lv [2, 3, 4, 5, 6, 7, 8, 9, 10, 11, 12, 13, 14, 1, 0] rfl ?_
  exact hk121 _ _ _ _ _ _ hD ⟨show kc + Y ≤ 600000 by omega, show ks + Y2 ≤ 7300000 by omega⟩ hf
set_option maxHeartbeats 4000000 in
set_option maxRecDepth 100000 in
theorem wkL_law_121 {l : Launch} {g : xG} {nm : String} {sz : Nat} {b lo t Ls : Nat} {xs : Nat → Int32} {K : Int32 → TH → MS → Prop} (hl : l.stackTraces = false) (hb : b + 8 < lo) (hb0 : b < (x0L sz).1 ∧ (x0L sz).2 b = none) : ∀ (n kc ks : Nat) (h : TH) (L : MS) (a13 : Int32) (a14 : Int32), LDp lo h → (kc + (737 * n + 1125) ≤ 600000 ∧ ks + (4422 * n + 6750) ≤ 7300000) → gL_law_121 lo t Ls xs K n h L a13 a14 → AWG (XLw b Ls xs) (lw_Z) (ML_law nm) room_1 l g (x0L sz) kc ks (LW g lo h L) 121 [(0, .ref b), (1, va_rf (some t)), (2, .ref (lo + 0)), (3, .ref (lo + 1)), (4, .ref (lo + 2)), (5, .ref (lo + 3)), (6, .ref (lo + 4)), (7, .ref (lo + 5)), (8, .ref (lo + 6)), (9, .ref (lo + 7)), (10, .ref (lo + 8)), (11, .ref (lo + 9)), (12, .ref (lo + 10)), (13, .int a13), (14, .int a14)] [] := by
  intro n
  induction n with
  | zero => intro kc ks h L a13 a14 hD hc hf; exact absurd hf (by simp [gL_law_121])
  | succ n hk121 =>
    intro kc ks h L a13 a14 hD hc hf
    rw [gL_law_121] at hf
    refine ag_iload 14 dL_law_121 rfl ?_
    refine ag_bipush (58 : Int32) dL_law_123 (by decide) ?_
    refine ag_icmp_ge 212 dL_law_125 (by decide) (fun c1 => ?_) (fun c1 => ?_)
    · rw [if_pos c1] at hf
      refine ag_lv [1, 13] rfl ?_
      exact wkL_law_212 hl hb hb0 _ _ _ hD ⟨show kc + (1125) ≤ 600000 by omega, show ks + (6750) ≤ 7300000 by omega⟩ hf
    · rw [if_neg c1] at hf
      refine ag_iload 13 dL_law_128 rfl ?_
      refine ag_if_eq 212 dL_law_130 (by decide) (fun c2 => ?_) (fun c2 => ?_)
      · rw [if_pos c2] at hf
        refine ag_lv [1, 13] rfl ?_
        exact wkL_law_212 hl hb hb0 _ _ _ hD ⟨show kc + (1125) ≤ 600000 by omega, show ks + (6750) ≤ 7300000 by omega⟩ hf
      · rw [if_neg c2] at hf
        refine ag_qload_n 1 dL_law_133 rfl ?_
        refine ag_aload_n 0 dL_law_134 rfl ?_
        refine ag_iconst (4 : Int32) dL_law_135 (by decide) ?_
        refine ag_iload 14 dL_law_136 rfl ?_
        refine ag_imul dL_law_138 ?_
        refine ag_aload_n 2 dL_law_139 rfl ?_
        refine ag_aload_n 3 dL_law_140 rfl ?_
        refine ag_aload 4 dL_law_141 rfl ?_
        refine ag_aload 5 dL_law_143 rfl ?_
        refine ag_aload 6 dL_law_145 rfl ?_
        refine ag_aload 7 dL_law_147 rfl ?_
        refine ag_aload 8 dL_law_149 rfl ?_
        refine ag_aload 9 dL_law_151 rfl ?_
        refine ag_aload 10 dL_law_153 rfl ?_
        refine ag_aload 11 dL_law_155 rfl ?_
        refine ag_aload 12 dL_law_157 rfl ?_
        refine ag_callR (fun s a c h => h.2) hb0 [va_rf (some t), .ref b, .int ((4 : Int32) * a14), .ref (lo + 0), .ref (lo + 1), .ref (lo + 2), .ref (lo + 3), .ref (lo + 4), .ref (lo + 5), .ref (lo + 6), .ref (lo + 7), .ref (lo + 8), .ref (lo + 9), .ref (lo + 10)] 14 (ctL_isDone hl hb _ _ _ hD hf) ⟨wl4 (i := 68) rfl rfl, ciL_isDone⟩ (wl4 (i := 69) rfl rfl) dL_law_159 rfl rfl (Nat.le_of_ble_eq_true rfl) ⟨Nat.le_of_ble_eq_true rfl, Nat.le_of_ble_eq_true rfl⟩ ⟨show kc + 435 ≤ 600086 by omega, show ks + 2610 ≤ 7301441 by omega⟩ (fun v4 h5 L6 hf hD7 => ?_)
        refine ag_if_eq 203 dL_law_162 (by decide) (fun c8 => ?_) (fun c8 => ?_)
        · rw [if_pos c8] at hf
          refine ag_iconst (0 : Int32) dL_law_203 (by decide) ?_
          refine ag_lv [0, 1, 2, 3, 4, 5, 6, 7, 8, 9, 10, 11, 12, 14] rfl ?_
          exact wkL_law_204 (Y := 737 * n + 1125) (Y2 := 4422 * n + 6750) hl hb hb0 _ hk121 ⟨by omega, by omega⟩ _ _ _ _ hD7 ⟨show kc + 435 + (0 + (737 * n + 1125)) ≤ 600000 by omega, show ks + 2610 + (0 + (4422 * n + 6750)) ≤ 7300000 by omega⟩ hf
        · rw [if_neg c8] at hf
          refine ag_qload_n 1 dL_law_165 rfl ?_
          refine ag_aload_n 2 dL_law_166 rfl ?_
          refine ag_aload_n 3 dL_law_167 rfl ?_
          refine ag_aload 4 dL_law_168 rfl ?_
          refine ag_aload 5 dL_law_170 rfl ?_
          refine ag_aload 6 dL_law_172 rfl ?_
          refine ag_aload 7 dL_law_174 rfl ?_
          refine ag_aload 8 dL_law_176 rfl ?_
          refine ag_aload 9 dL_law_178 rfl ?_
          refine ag_callR (fun s a c h => h.2) hb0 [va_rf (some t), .ref (lo + 0), .ref (lo + 1), .ref (lo + 2), .ref (lo + 3), .ref (lo + 4), .ref (lo + 5), .ref (lo + 6), .ref (lo + 7)] 9 (ctL_areGames hl hb _ _ hD7 hf) ⟨wl3 (i := 195) rfl rfl, ciL_areGames⟩ (wl3 (i := 196) rfl rfl) dL_law_180 rfl rfl (Nat.le_of_ble_eq_true rfl) ⟨Nat.le_of_ble_eq_true rfl, Nat.le_of_ble_eq_true rfl⟩ ⟨show kc + 435 + 236 ≤ 600086 by omega, show ks + 2610 + 1416 ≤ 7301441 by omega⟩ (fun v10 h11 L12 hf hD13 => ?_)
          refine ag_if_eq 203 dL_law_183 (by decide) (fun c14 => ?_) (fun c14 => ?_)
          · rw [if_pos c14] at hf
            refine ag_iconst (0 : Int32) dL_law_203 (by decide) ?_
            refine ag_lv [0, 1, 2, 3, 4, 5, 6, 7, 8, 9, 10, 11, 12, 14] rfl ?_
            exact wkL_law_204 (Y := 737 * n + 1125) (Y2 := 4422 * n + 6750) hl hb hb0 _ hk121 ⟨by omega, by omega⟩ _ _ _ _ hD13 ⟨show kc + 435 + 236 + (0 + (737 * n + 1125)) ≤ 600000 by omega, show ks + 2610 + 1416 + (0 + (4422 * n + 6750)) ≤ 7300000 by omega⟩ hf
          · rw [if_neg c14] at hf
            refine ag_qload_n 1 dL_law_186 rfl ?_
            refine ag_aload 10 dL_law_187 rfl ?_
            refine ag_aload 11 dL_law_189 rfl ?_
            refine ag_aload 9 dL_law_191 rfl ?_
            refine ag_callR (fun s a c h => h.2) hb0 [va_rf (some t), .ref (lo + 8), .ref (lo + 9), .ref (lo + 7)] 4 (ctL_areNodes hl hb _ _ hD13 hf) ⟨wl4 (i := 65) rfl rfl, ciL_areNodes⟩ (wl4 (i := 66) rfl rfl) dL_law_193 rfl rfl (Nat.le_of_ble_eq_true rfl) ⟨Nat.le_of_ble_eq_true rfl, Nat.le_of_ble_eq_true rfl⟩ ⟨show kc + 435 + 236 + 66 ≤ 600086 by omega, show ks + 2610 + 1416 + 396 ≤ 7301441 by omega⟩ (fun v16 h17 L18 hf hD19 => ?_)
            refine ag_if_eq 203 dL_law_196 (by decide) (fun c20 => ?_) (fun c20 => ?_)
            · rw [if_pos c20] at hf
              refine ag_iconst (0 : Int32) dL_law_203 (by decide) ?_
              refine ag_lv [0, 1, 2, 3, 4, 5, 6, 7, 8, 9, 10, 11, 12, 14] rfl ?_
              exact wkL_law_204 (Y := 737 * n + 1125) (Y2 := 4422 * n + 6750) hl hb hb0 _ hk121 ⟨by omega, by omega⟩ _ _ _ _ hD19 ⟨show kc + 435 + 236 + 66 + (0 + (737 * n + 1125)) ≤ 600000 by omega, show ks + 2610 + 1416 + 396 + (0 + (4422 * n + 6750)) ≤ 7300000 by omega⟩ hf
            · rw [if_neg c20] at hf
              refine ag_iconst (1 : Int32) dL_law_199 (by decide) ?_
              refine ag_goto 204 dL_law_200 (by decide) ?_
              refine ag_lv [0, 1, 2, 3, 4, 5, 6, 7, 8, 9, 10, 11, 12, 14] rfl ?_
              exact wkL_law_204 (Y := 737 * n + 1125) (Y2 := 4422 * n + 6750) hl hb hb0 _ hk121 ⟨by omega, by omega⟩ _ _ _ _ hD19 ⟨show kc + 435 + 236 + 66 + (0 + (737 * n + 1125)) ≤ 600000 by omega, show ks + 2610 + 1416 + 396 + (0 + (4422 * n + 6750)) ≤ 7300000 by omega⟩ hf
set_option maxHeartbeats 4000000 in
set_option maxRecDepth 100000 in
theorem wkL_law_116 {l : Launch} {g : xG} {nm : String} {sz : Nat} {b lo t Ls : Nat} {xs : Nat → Int32} {K : Int32 → TH → MS → Prop} {kc ks : Nat} (hl : l.stackTraces = false) (hb : b + 8 < lo) (hb0 : b < (x0L sz).1 ∧ (x0L sz).2 b = none) (h : TH) (L : MS) (s0 : Int32) (hD : LDp lo h) (hc : kc + (45345) ≤ 600000 ∧ ks + (272070) ≤ 7300000) (hf : gL_law_116 lo t Ls xs K h L s0) : AWG (XLw b Ls xs) (lw_Z) (ML_law nm) room_1 l g (x0L sz) kc ks (LW g lo h L) 116 [(0, .ref b), (1, va_rf (some t)), (2, .ref (lo + 0)), (3, .ref (lo + 1)), (4, .ref (lo + 2)), (5, .ref (lo + 3)), (6, .ref (lo + 4)), (7, .ref (lo + 5)), (8, .ref (lo + 6)), (9, .ref (lo + 7)), (10, .ref (lo + 8)), (11, .ref (lo + 9)), (12, .ref (lo + 10))] [.int s0] := by
  rw [gL_law_116] at hf
  refine ag_istore [(13, .int s0), (0, .ref b), (1, va_rf (some t)), (2, .ref (lo + 0)), (3, .ref (lo + 1)), (4, .ref (lo + 2)), (5, .ref (lo + 3)), (6, .ref (lo + 4)), (7, .ref (lo + 5)), (8, .ref (lo + 6)), (9, .ref (lo + 7)), (10, .ref (lo + 8)), (11, .ref (lo + 9)), (12, .ref (lo + 10))] dL_law_116 (show 13 < 15 by decide) rfl ?_
  refine ag_iconst (0 : Int32) dL_law_118 (by decide) ?_
  refine ag_istore [(14, .int (0 : Int32)), (13, .int s0), (0, .ref b), (1, va_rf (some t)), (2, .ref (lo + 0)), (3, .ref (lo + 1)), (4, .ref (lo + 2)), (5, .ref (lo + 3)), (6, .ref (lo + 4)), (7, .ref (lo + 5)), (8, .ref (lo + 6)), (9, .ref (lo + 7)), (10, .ref (lo + 8)), (11, .ref (lo + 9)), (12, .ref (lo + 10))] dL_law_119 (show 14 < 15 by decide) rfl ?_
  refine ag_lv [2, 3, 4, 5, 6, 7, 8, 9, 10, 11, 12, 13, 14, 1, 0] rfl ?_
  exact wkL_law_121 hl hb hb0 60 _ _ _ _ _ _ hD ⟨show kc + (737 * 60 + 1125) ≤ 600000 by omega, show ks + (4422 * 60 + 6750) ≤ 7300000 by omega⟩ hf
set_option maxHeartbeats 4000000 in
set_option maxRecDepth 100000 in
theorem wkL_law_start {l : Launch} {g : xG} {nm : String} {sz : Nat} {b lo t Ls : Nat} {xs : Nat → Int32} {K : Int32 → TH → MS → Prop} {kc ks : Nat} (hl : l.stackTraces = false) (hb : b + 8 < lo) (hb0 : b < (x0L sz).1 ∧ (x0L sz).2 b = none) (h : TH) (L : MS) (hD : LDp lo h) (hc : kc + 45647 ≤ 600000 ∧ ks + 273882 ≤ 7300000) (hf : gL_law lo t Ls xs K h L) : AWG (XLw b Ls xs) (lw_Z) (ML_law nm) room_1 l g (x0L sz) kc ks (LW g lo h L) 70 [(0, .ref b), (1, va_rf (some t)), (2, .ref (lo + 0)), (3, .ref (lo + 1)), (4, .ref (lo + 2)), (5, .ref (lo + 3)), (6, .ref (lo + 4)), (7, .ref (lo + 5)), (8, .ref (lo + 6)), (9, .ref (lo + 7)), (10, .ref (lo + 8)), (11, .ref (lo + 9)), (12, .ref (lo + 10))] [] := by
  rw [gL_law] at hf
  refine ag_qload_n 1 dL_law_70 rfl ?_
  refine ag_aload_n 2 dL_law_71 rfl ?_
  refine ag_aload_n 3 dL_law_72 rfl ?_
  refine ag_aload 4 dL_law_73 rfl ?_
  refine ag_aload 5 dL_law_75 rfl ?_
  refine ag_aload 6 dL_law_77 rfl ?_
  refine ag_aload 7 dL_law_79 rfl ?_
  refine ag_aload 8 dL_law_81 rfl ?_
  refine ag_aload 9 dL_law_83 rfl ?_
  refine ag_callR (fun s a c h => h.2) hb0 [va_rf (some t), .ref (lo + 0), .ref (lo + 1), .ref (lo + 2), .ref (lo + 3), .ref (lo + 4), .ref (lo + 5), .ref (lo + 6), .ref (lo + 7)] 9 (ctL_areGames hl hb _ _ hD hf) ⟨wl3 (i := 195) rfl rfl, ciL_areGames⟩ (wl3 (i := 196) rfl rfl) dL_law_85 rfl rfl (Nat.le_of_ble_eq_true rfl) ⟨Nat.le_of_ble_eq_true rfl, Nat.le_of_ble_eq_true rfl⟩ ⟨show kc + 236 ≤ 600086 by omega, show ks + 1416 ≤ 7301441 by omega⟩ (fun v2 h3 L4 hf hD5 => ?_)
  refine ag_if_eq 115 dL_law_88 (by decide) (fun c6 => ?_) (fun c6 => ?_)
  · rw [if_pos c6] at hf
    refine ag_iconst (0 : Int32) dL_law_115 (by decide) ?_
    refine ag_lv [0, 1, 2, 3, 4, 5, 6, 7, 8, 9, 10, 11, 12] rfl ?_
    exact wkL_law_116 hl hb hb0 _ _ _ hD5 ⟨show kc + 236 + (45345) ≤ 600000 by omega, show ks + 1416 + (272070) ≤ 7300000 by omega⟩ hf
  · rw [if_neg c6] at hf
    refine ag_qload_n 1 dL_law_91 rfl ?_
    refine ag_aload 10 dL_law_92 rfl ?_
    refine ag_aload 11 dL_law_94 rfl ?_
    refine ag_aload 9 dL_law_96 rfl ?_
    refine ag_callR (fun s a c h => h.2) hb0 [va_rf (some t), .ref (lo + 8), .ref (lo + 9), .ref (lo + 7)] 4 (ctL_areNodes hl hb _ _ hD5 hf) ⟨wl4 (i := 65) rfl rfl, ciL_areNodes⟩ (wl4 (i := 66) rfl rfl) dL_law_98 rfl rfl (Nat.le_of_ble_eq_true rfl) ⟨Nat.le_of_ble_eq_true rfl, Nat.le_of_ble_eq_true rfl⟩ ⟨show kc + 236 + 66 ≤ 600086 by omega, show ks + 1416 + 396 ≤ 7301441 by omega⟩ (fun v8 h9 L10 hf hD11 => ?_)
    refine ag_if_eq 115 dL_law_101 (by decide) (fun c12 => ?_) (fun c12 => ?_)
    · rw [if_pos c12] at hf
      refine ag_iconst (0 : Int32) dL_law_115 (by decide) ?_
      refine ag_lv [0, 1, 2, 3, 4, 5, 6, 7, 8, 9, 10, 11, 12] rfl ?_
      exact wkL_law_116 hl hb hb0 _ _ _ hD11 ⟨show kc + 236 + 66 + (45345) ≤ 600000 by omega, show ks + 1416 + 396 + (272070) ≤ 7300000 by omega⟩ hf
    · rw [if_neg c12] at hf
      refine ag_qload_n 1 dL_law_104 rfl ?_
      obtain ⟨hk_13, v15, h16, q14, hD17, hf⟩ := hf
      refine ag_callV 6 (some t) [] 0 rfl (LW_ob hk_13) rfl rfl (ctC hD11 (ctX8_settle hl h9 _  q14)) ⟨wl1 (i := 80) rfl rfl, ciX8_settle.1, ciX8_settle.2.1, ciX8_settle.2.2⟩ (wl1 (i := 81) rfl rfl) (wl1 (i := 82) rfl rfl) dL_law_105 rfl rfl (Nat.le_of_ble_eq_true rfl) ⟨Nat.le_of_ble_eq_true rfl, Nat.le_of_ble_eq_true rfl⟩ ⟨show kc + 236 + 66 + 0 ≤ 600086 by omega, show ks + 1416 + 396 + 0 ≤ 7301441 by omega⟩ (fun _ => ?_)
      refine ag_if_ne 115 dL_law_108 (by decide) (fun c18 => ?_) (fun c18 => ?_)
      · rw [if_neg c18] at hf
        refine ag_iconst (0 : Int32) dL_law_115 (by decide) ?_
        refine ag_lv [0, 1, 2, 3, 4, 5, 6, 7, 8, 9, 10, 11, 12] rfl ?_
        exact wkL_law_116 hl hb hb0 _ _ _ hD17 ⟨show kc + 236 + 66 + 0 + (45345) ≤ 600000 by omega, show ks + 1416 + 396 + 0 + (272070) ≤ 7300000 by omega⟩ hf
      · rw [if_pos c18] at hf
        refine ag_iconst (1 : Int32) dL_law_111 (by decide) ?_
        refine ag_goto 116 dL_law_112 (by decide) ?_
        refine ag_lv [0, 1, 2, 3, 4, 5, 6, 7, 8, 9, 10, 11, 12] rfl ?_
        exact wkL_law_116 hl hb hb0 _ _ _ hD17 ⟨show kc + 236 + 66 + 0 + (45345) ≤ 600000 by omega, show ks + 1416 + 396 + 0 + (272070) ≤ 7300000 by omega⟩ hf
