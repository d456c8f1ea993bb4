/-! The start. -/
theorem st_cl {s : State} {args : Array Value} (hts : ∀ w ∈ lw_tbl, w.before args s = true) : ∃ D : va_G, ∀ (c : Nat) (q : vw_C), vwCl[c]? = some q → u_Kn s q.1 q.2.1 q.2.2 (D.1 c) (D.2 c) := by
  have hw : ∀ w ∈ wt, w.before args s = true := fun w h => hts w (wt_sub w h)
  obtain ⟨c0, i0, h0⟩ := u_known (n := 3) hw inX1 (hts (.instantiable RX1 3) (wm2 (i := 32) rfl))
  obtain ⟨c1, i1, h1⟩ := u_known (n := 6) hw inX2 (hts (.instantiable RX2 6) (wm1 (i := 28) rfl))
  obtain ⟨c2, i2, h2⟩ := u_known (n := 10) hw inX3 (hts (.instantiable RX3 10) (wm2 (i := 59) rfl))
  obtain ⟨c3, i3, h3⟩ := u_known (n := 6) hw inX4 (hts (.instantiable RX4 6) (wm2 (i := 68) rfl))
  obtain ⟨c4, i4, h4⟩ := u_known (n := 3) hw inX6 (hts (.instantiable RX6 3) (wm1 (i := 57) rfl))
  obtain ⟨c5, i5, h5⟩ := u_known (n := 8) hw inX7 (hts (.instantiable RX7 8) (wm3 (i := 199) rfl))
  obtain ⟨c6, i6, h6⟩ := u_known (n := 2) hw inX8 (hts (.instantiable RX8 2) (wm1 (i := 20) rfl))
  obtain ⟨c7, i7, h7⟩ := u_known (n := 48) hw inX9 (hts (.instantiable RX9 48) (wm4 (i := 93) rfl))
  refine ⟨(fun k => if k = 0 then c0 else if k = 1 then c1 else if k = 2 then c2 else if k = 3 then c3 else if k = 4 then c4 else if k = 5 then c5 else if k = 6 then c6 else c7, fun k => if k = 0 then i0 else if k = 1 then i1 else if k = 2 then i2 else if k = 3 then i3 else if k = 4 then i4 else if k = 5 then i5 else if k = 6 then i6 else i7), ?_⟩
  intro c q hq
  match c, hq with
  | 0, hq => cases hq; exact h0
  | 1, hq => cases hq; exact h1
  | 2, hq => cases hq; exact h2
  | 3, hq => cases hq; exact h3
  | 4, hq => cases hq; exact h4
  | 5, hq => cases hq; exact h5
  | 6, hq => cases hq; exact h6
  | 7, hq => cases hq; exact h7
  | c + 8, hq => simp [vwCl] at hq
theorem st_ai {s : State} {args : Array Value} (h : (Cond.arrayClass .int).before args s = true) : ∃ cA, ArrOfT s cA .int ∧ va_RA s cA .int := by
  obtain ⟨c, k, comp, h1, h2, h3⟩ := Cond.arrayClass_spec h
  exact ⟨c, fun n z => ⟨fun k h => (by cases h), k, h2, comp, h3⟩, h1⟩
theorem st_al {s : State} {args : Array Value} (h : (Cond.arrayClass .long).before args s = true) : ∃ cA, ArrOfT s cA .long ∧ va_RA s cA .long := by
  obtain ⟨c, k, comp, h1, h2, h3⟩ := Cond.arrayClass_spec h
  exact ⟨c, fun n z => ⟨fun k h => (by cases h), k, h2, comp, h3⟩, h1⟩
theorem st_az {s : State} {args : Array Value} (h : (Cond.arrayClass .boolean).before args s = true) : ∃ cA, ArrOfT s cA .boolean ∧ va_RA s cA .boolean := by
  obtain ⟨c, k, comp, h1, h2, h3⟩ := Cond.arrayClass_spec h
  exact ⟨c, fun n z => ⟨fun k h => (by cases h), k, h2, comp, h3⟩, h1⟩
theorem st_ao {s : State} {args : Array Value} {C : String} (h : (Cond.arrayOver (.object C)).before args s = true) : ∃ cA, ArrOfT s cA (.object C) ∧ va_RA s cA (.object C) := by
  obtain ⟨comp, c, k, h1, h2, h3, h4, h5⟩ := Cond.arrayOver_spec h
  exact ⟨c, fun n z => ⟨fun k h => (by cases h), k, h3, comp, h4⟩, k, comp, h3, h4, h1, h5⟩
theorem st_K {s : State} {args : Array Value} (hts : ∀ w ∈ lw_tbl, w.before args s = true) : ∃ g : xG, va_K g.1 vwCl (xTys g) s := by
  obtain ⟨D, hD⟩ := st_cl hts
  obtain ⟨cI, hI⟩ := st_ai (hts (.arrayClass .int) (wm1 (i := 55) rfl))
  obtain ⟨cJ, hJ⟩ := st_al (hts (.arrayClass .long) (wm5 (i := 4) rfl))
  obtain ⟨cZ, hZ⟩ := st_az (hts (.arrayClass .boolean) (wm5 (i := 3) rfl))
  obtain ⟨cM, hM⟩ := st_ao (hts (.arrayOver (.object RX3)) (wm1 (i := 34) rfl))
  obtain ⟨cT, hT⟩ := st_ao (hts (.arrayOver (.object RX7)) (wm1 (i := 63) rfl))
  refine ⟨(D, cI, cJ, cZ, cM, cT), hD, fun k q hq => ?_⟩
  match k, hq with
  | 0, hq => cases hq; exact hI
  | 1, hq => cases hq; exact hJ
  | 2, hq => cases hq; exact hZ
  | 3, hq => cases hq; exact hM
  | 4, hq => cases hq; exact hT
  | k + 5, hq => simp [xTys] at hq
theorem st_J {s : State} {args : Array Value} (hts : ∀ w ∈ lw_tbl, w.before args s = true) : xJ s := fun w hw hk => va_Nw.of (by cases w <;> first | rfl | cases hk) (hts w hw)
def nwF : List Cond := flatC (Jvm.Cond.and given_1 narrow_1)
theorem st_Kx {s : State} {args : Array Value} (hs : ∀ w ∈ nwF, w.before args s = true) : xK s := by
  intro q hq
  simp only [xNcs, List.mem_cons, List.not_mem_nil, or_false] at hq
  rcases hq with rfl | rfl | rfl | rfl | rfl | rfl <;> exact va_Nc.of (hs _ (by decide +kernel))
def strOk (w : Cond) : Bool := match w with
  | .stringRef own k _ => decide (Cond.exactly (.string own k) "java/lang/String" ∈ nwF)
  | _ => true
theorem strOk_all : ∀ w ∈ lw_tbl, strOk w = true := by decide +kernel
theorem st_I {s : State} {args : Array Value} {x0 : xV} (hts : ∀ w ∈ lw_tbl, w.before args s = true) (hs : ∀ w ∈ nwF, w.before args s = true) (hA : ∀ a : Nat, a < s.heap.size → ¬ xF x0 a) : xI x0 s s.heap := by
  obtain ⟨t, ht, hT⟩ := va_Tof (args := args) (s := s) (tm := .static RX4 "HANDICAP_POINTS" "[I") (ty := .int) (N := 4) (f := hpV) (A := xF x0) (by decide) (hs _ (by decide +kernel)) (va_eqt (z := Int32.ofNat 4) (hs _ (by decide +kernel))) (fun j hj => by
    match j, hj with
    | 0, _ => exact va_eqt (z := 16) (hs _ (by decide +kernel))
    | 1, _ => exact va_eqt (z := 32) (hs _ (by decide +kernel))
    | 2, _ => exact va_eqt (z := 18) (hs _ (by decide +kernel))
    | 3, _ => exact va_eqt (z := 30) (hs _ (by decide +kernel))
    | j + 4, hj => omega) hA
  refine ⟨⟨t, va_Zref (hts (.laysStatic RX4 "HANDICAP_POINTS" "[I") (wm2 (i := 100) rfl)) (hts (.initialized RX4) (wt_sub _ (wl1 (i := 14) rfl rfl))) ht hA, hT⟩, va_AO.of (hts (.arrayOver (.object RX3)) (wm1 (i := 34) rfl)), va_AO.of (hts (.arrayOver (.object RX7)) (wm1 (i := 63) rfl)), ?_, ?_, fun own k tx h => ?_⟩
  · exact vx_Zqof (hts (.laysStatic Bundle.tN "UNASSIGNED_STACK" Bundle.steD) (wm1 (i := 169) rfl)) (hts (.initialized Bundle.tN) (wm1 (i := 5) rfl)) (hs _ (by decide +kernel)) hA
  · exact vx_Zqof (hts (.laysStatic Bundle.tN "SUPPRESSED_SENTINEL" Bundle.listD) (wm1 (i := 171) rfl)) (hts (.initialized Bundle.tN) (wm1 (i := 5) rfl)) (hs _ (by decide +kernel)) hA
  · have h1 := of_decide_eq_true (strOk_all _ h)
    obtain ⟨a, c, cell, k', e, -⟩ := Cond.exactly_spec (hs _ h1)
    exact ⟨a, vk_R.of (hts _ h) e⟩
/-! the law's first rows -/
def hz0 (sz : Nat) : TH := (sz, fun _ => 0, fun _ => 0, fun _ _ => 0, fun _ _ => 0, fun _ _ => none)
theorem hz0_E {g : xG} {sz : Nat} : thE g (hz0 sz) = x0L sz := rfl
theorem moQ_0 {mo : Nat} : moQ mo 0 = moQ 0 0 := by
  unfold moQ
  apply List.map_congr_left
  intro t _
  simp
theorem dfQ : ∀ j, j < 48 → defaultValue (tyX9 j) = vp_V (moQ 0 0) j := by decide
theorem nw9 {g : xG} {h : TH} : xNew (thE g h) (.inr (7, moQ (t_sz h) 0)) = xU (mqE g (t_sz h) 0 0) (thE g h).2 := by
  refine Prod.ext rfl (funext fun q => ?_)
  show (if q = t_sz h then some (.inr (7, moQ (t_sz h) 0)) else (thE g h).2 q) = (xU (mqE g (t_sz h) 0 0) (thE g h).2).2 q
  by_cases e : q = t_sz h
  · subst e
    rw [if_pos rfl, xU_l mq_ob]
  · rw [if_neg e]
    have h0 : (mqE g (t_sz h) 0 0).2 q = none := by
      show (if q = t_sz h then some (.inr (7, moQ (t_sz h) 0)) else if t_sz h < q ∧ q < t_sz h + 1 + 0 then moA g ms0 (q - t_sz h - 1) else none) = none
      rw [if_neg e, if_neg (by omega)]
    rw [xU_r h0]
theorem nwO {g : xG} {h : TH} {mo : Nat} (hm : mo = t_sz h) (hk : ∀ a, t_sz h ≤ a → t_kd h a = 0) : xNew (xU (moE g mo (mo + 39) ms0) (thE g h).2) (.inl (g.2.2.1, 1, .inr (.inl (fun _ => 0)))) = LW g mo (mo + 40, h.2) ms0 (fun _ => 0) := by
  have hD : LD mo (mo + 40, h.2) := ⟨Nat.le_refl _, fun a h1 h2 => hk a (by omega), fun a h1 => hk a (by have : mo + 40 ≤ a := h1; omega)⟩
  rw [LW_m hD]
  refine Prod.ext rfl (funext fun q => ?_)
  show (if q = mo + 39 then some (.inl (g.2.2.1, 1, .inr (.inl (fun _ => 0)))) else (xU (moE g mo (mo + 39) ms0) (thE g h).2).2 q) = (xU (moE g mo (mo + 40) ms0) (LYm g mo (mo + 40, h.2) (fun _ => 0))).2 q
  have hL : LYm g mo (mo + 40, h.2) (fun _ => 0) q = (match (thE g h).2 q with | some e => some e | none => if q = mo + 39 then some (.inl (g.2.2.1, 1, .inr (.inl (fun _ => 0)))) else none) := rfl
  have hmm : (moE g mo (mo + 40) ms0).2 q = (moE g mo (mo + 39) ms0).2 q := rfl
  by_cases e : q = mo + 39
  · rw [if_pos e, xU_r (by rw [hmm, e]; exact moE_hi (Nat.le_refl _)), hL, thE_no (hk q (by omega))]
    show _ = (if q = mo + 39 then _ else none)
    rw [if_pos e]
  · rw [if_neg e]
    cases h0 : (moE g mo (mo + 39) ms0).2 q with
    | some e2 => rw [xU_l h0, xU_l (hmm.trans h0)]
    | none =>
      rw [xU_r h0, xU_r (hmm.trans h0), hL]
      cases (thE g h).2 q with
      | some e2 => rfl
      | none => show none = (if q = mo + 39 then _ else none); rw [if_neg e]
set_option maxHeartbeats 4000000 in
set_option maxRecDepth 100000 in
theorem law_init {b L : Nat} {xs : Nat → Int32} {nm : String} {l : Launch} {g : xG} {sz : Nat} (hl : l.stackTraces = false) (hL : L ≤ 3072) (hb : b < sz) : AL b L xs nm l g sz 0 0 (x0L sz) 0 [(0, .ref b)] [] := by
  have hk0 : ∀ a, t_sz (hz0 sz) ≤ a → t_kd (hz0 sz) a = 0 := fun a _ => rfl
  have hRR := start_ok hk0 (sz + 8) (Nat.le_refl _)
  have hk1 : ∀ a, t_sz (hI1 (hz0 sz)) ≤ a → t_kd (hI1 (hz0 sz)) a = 0 := by
    obtain ⟨hI, e, s1, kd, -⟩ := init_ok (h := hz0 sz)
    have e2 : hI = hI1 (hz0 sz) := by rw [init_8] at e; cases e; rfl
    subst e2
    intro a ha
    rw [s1] at ha
    rw [kd, if_neg (by omega), if_neg (by omega), if_neg (by omega), if_neg (by omega), if_neg (by omega), if_neg (by omega), if_neg (by omega), if_neg (by omega)]
    rfl
  have hs1 : t_sz (hI1 (hz0 sz)) = sz + 8 := rfl
  rw [← hz0_E (g := g)]
  refine ag_new (thB (tgs 6)) (rfl : vwCl[6]? = some (RX8, TX8, 2)) xtX8.1 xtX8.2.1 (wl1 (i := 19) rfl rfl) (wl1 (i := 20) rfl rfl) (wl1 (i := 1) rfl rfl) (by decide) ⟨Nat.le_of_ble_eq_true rfl, Nat.le_of_ble_eq_true rfl⟩ dL_law_0 ?_
  have e7 : xNew (thE g (hz0 sz)) (.inr (6, thB (tgs 6))) = thE g (s_N (hz0 sz) 7 2) := by
    refine xNew_th (kd := 7) (n := 2) ?_
    have h2 := thC_ob (g := g) (h := s_N (hz0 sz) 7 2) (a := t_sz (hz0 sz)) (ci := 6) (by simp [s_N, t_kd, x_up1]) (by decide)
    rw [thB_eq] at h2
    rw [← h2]
    show _ = thC g (s_N (hz0 sz) 7 2) (t_sz (hz0 sz)) (t_kd (s_N (hz0 sz) 7 2) (t_sz (hz0 sz)))
    rw [show t_kd (s_N (hz0 sz) 7 2) (t_sz (hz0 sz)) = 7 by simp [s_N, t_kd, x_up1]]
  rw [e7]
  refine ag_dup dL_law_3 rfl ?_
  refine ag_callI sz [] 0 rfl rfl (ctX8_init (g := g) hl (s_N (hz0 sz) 7 2) sz init_8) ⟨wl1 (i := 21) rfl rfl, ciX8_init.1, ciX8_init.2.1, ciX8_init.2.2⟩ (wl1 (i := 22) rfl rfl) dL_law_4 rfl rfl (by simp [cat_q, cat_i, cat_l, cat_r]) ⟨Nat.le_of_ble_eq_true rfl, Nat.le_of_ble_eq_true rfl⟩ ⟨Nat.le_of_ble_eq_true rfl, Nat.le_of_ble_eq_true rfl⟩ (fun _ => ?_)
  refine ag_qstore_n [(1, va_rf (some sz)), (0, .ref b)] (r := some sz) dL_law_7 rfl (show 1 < 7 by decide) rfl ?_
  refine ag_new (moQ (sz + 8) 0) (rfl : vwCl[7]? = some (RX9, TX9, 48)) xtX9.1 xtX9.2.1 (wl4 (i := 92) rfl rfl) (wl4 (i := 93) rfl rfl) (wl1 (i := 4) rfl rfl) (by rw [moQ_0]; exact dfQ) ⟨Nat.le_of_ble_eq_true rfl, Nat.le_of_ble_eq_true rfl⟩ dL_law_8 ?_
  have e9 : xNew (thE g (hI1 (hz0 sz))) (.inr (7, moQ (sz + 8) 0)) = xU (mqE g (sz + 8) 0 0) (thE g (hI1 (hz0 sz))).2 := nw9 (h := hI1 (hz0 sz))
  rw [e9]
  refine ag_dup dL_law_11 rfl ?_
  have hdj : ∀ a, (thE g (hI1 (hz0 sz))).2 a ≠ none → (mqE g (sz + 8) 0 0).2 a = none ∧ a < (mqE g (sz + 8) 0 0).1 := fun a ha => by
    have h1 : a < sz + 8 := by
      rcases Nat.lt_or_ge a (sz + 8) with h | h
      · exact h
      · exact absurd (thE_no (hk1 a h)) ha
    refine ⟨?_, Nat.lt_of_lt_of_le h1 (show sz + 8 ≤ sz + 8 + 1 + 0 by omega)⟩
    show (if a = sz + 8 then some (.inr (7, moQ (sz + 8) 0)) else if sz + 8 < a ∧ a < sz + 8 + 1 + 0 then moA g ms0 (a - (sz + 8) - 1) else none) = none
    rw [if_neg (by omega), if_neg (by omega)]
  refine ag_callI (sz + 8) [] 0 rfl rfl ((ctX9_init (g := g) hl (sz + 8)).frame hdj) ⟨wl4 (i := 94) rfl rfl, ciX9_init.1, ciX9_init.2.1, ciX9_init.2.2⟩ (wl4 (i := 95) rfl rfl) dL_law_12 rfl rfl (by simp [cat_q, cat_i, cat_l, cat_r]) ⟨Nat.le_of_ble_eq_true rfl, Nat.le_of_ble_eq_true rfl⟩ ⟨Nat.le_of_ble_eq_true rfl, Nat.le_of_ble_eq_true rfl⟩ (fun _ => ?_)
  refine ag_qstore_n [(2, .ref (sz + 8)), (1, va_rf (some sz)), (0, .ref b)] (r := some (sz + 8)) dL_law_15 rfl (show 2 < 7 by decide) rfl ?_
  refine ag_iconst (1 : Int32) dL_law_16 (by decide) ?_
  refine ag_newa 1 (atype := .long) (ty := .long) (cB := g.2.2.1) (N := 1) (a0 := (1, .inr (.inl (fun _ => 0)))) rfl (Or.inr (Or.inl rfl)) rfl (wl5 (i := 4) rfl rfl) rfl (by decide) (by decide) (by decide) ⟨Nat.le_of_ble_eq_true rfl, Nat.le_of_ble_eq_true rfl⟩ dL_law_17 ?_
  have eO : xNew (xU (moE g (sz + 8) (sz + 8 + 39) ms0) (thE g (hI1 (hz0 sz))).2) (.inl (g.2.2.1, 1, .inr (.inl (fun _ => 0)))) = LW g (sz + 8) (sz + 8 + 40, (hI1 (hz0 sz)).2) ms0 (fun _ => 0) := nwO rfl hk1
  rw [eO]
  refine ag_qstore_n [(3, .ref (sz + 8 + 39)), (2, .ref (sz + 8)), (1, va_rf (some sz)), (0, .ref b)] (r := some (sz + 8 + 39)) dL_law_19 rfl (show 3 < 7 by decide) rfl ?_
  refine ag_iconst (nI (6 * 0)) dL_law_20 (by decide) ?_
  refine ag_istore (lvL sz (sz + 8) b (nI (6 * 0))) dL_law_21 (show 4 < 7 by decide) rfl ?_
  refine ag_widen (50 + 200 * 0) (14000 + 1000 * 0) (Nat.le_of_ble_eq_true rfl) (Nat.le_of_ble_eq_true rfl) ?_
  exact law_loop (kc := 50) (ks := 14000) hl hL hb ⟨by decide, by decide⟩ 512 0 _ _ _ rfl hRR
