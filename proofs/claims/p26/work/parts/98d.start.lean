/-! The start. -/
theorem st_cl {s : State} {args : Array Value} (hts : ∀ w ∈ lw_tbl, w.before args s = true) : ∃ D : va_G, ∀ (c : Nat) (q : vw_C), vwCl[c]? = some q → u_Kn s q.1 q.2.1 q.2.2 (D.1 c) (D.2 c) := by
  have hw : ∀ w ∈ wt, w.before args s = true := fun w h => hts w (wt_sub w h)
  obtain ⟨c0, i0, h0⟩ := u_known (n := 3) hw inX1 (hts (.instantiable RX1 3) (wm2 (i := 20) rfl))
  obtain ⟨c1, i1, h1⟩ := u_known (n := 6) hw inX2 (hts (.instantiable RX2 6) (wm1 (i := 27) rfl))
  obtain ⟨c2, i2, h2⟩ := u_known (n := 10) hw inX3 (hts (.instantiable RX3 10) (wm2 (i := 47) rfl))
  obtain ⟨c3, i3, h3⟩ := u_known (n := 6) hw inX4 (hts (.instantiable RX4 6) (wm2 (i := 56) rfl))
  obtain ⟨c4, i4, h4⟩ := u_known (n := 3) hw inX6 (hts (.instantiable RX6 3) (wm1 (i := 56) rfl))
  obtain ⟨c5, i5, h5⟩ := u_known (n := 8) hw inX7 (hts (.instantiable RX7 8) (wm3 (i := 55) rfl))
  obtain ⟨c6, i6, h6⟩ := u_known (n := 2) hw inX8 (hts (.instantiable RX8 2) (wm1 (i := 19) rfl))
  refine ⟨(fun k => if k = 0 then c0 else if k = 1 then c1 else if k = 2 then c2 else if k = 3 then c3 else if k = 4 then c4 else if k = 5 then c5 else c6, fun k => if k = 0 then i0 else if k = 1 then i1 else if k = 2 then i2 else if k = 3 then i3 else if k = 4 then i4 else if k = 5 then i5 else i6), ?_⟩
  intro c q hq
  match c, hq with
  | 0, hq => cases hq; exact h0
  | 1, hq => cases hq; exact h1
  | 2, hq => cases hq; exact h2
  | 3, hq => cases hq; exact h3
  | 4, hq => cases hq; exact h4
  | 5, hq => cases hq; exact h5
  | 6, hq => cases hq; exact h6
  | c + 7, hq => simp [vwCl] at hq
theorem st_ai {s : State} {args : Array Value} (h : (Cond.arrayClass .int).before args s = true) : ∃ cA, ArrOfT s cA .int ∧ va_RA s cA .int := by
  obtain ⟨c, k, comp, h1, h2, h3⟩ := Cond.arrayClass_spec h
  exact ⟨c, fun n z => ⟨fun k h => (by cases h), k, h2, comp, h3⟩, h1⟩
theorem st_al {s : State} {args : Array Value} (h : (Cond.arrayClass .long).before args s = true) : ∃ cA, ArrOfT s cA .long ∧ va_RA s cA .long := by
  obtain ⟨c, k, comp, h1, h2, h3⟩ := Cond.arrayClass_spec h
  exact ⟨c, fun n z => ⟨fun k h => (by cases h), k, h2, comp, h3⟩, h1⟩
theorem st_az {s : State} {args : Array Value} (h : (Cond.arrayClass .byte).before args s = true) : ∃ cA, ArrOfT s cA .byte ∧ va_RA s cA .byte := by
  obtain ⟨c, k, comp, h1, h2, h3⟩ := Cond.arrayClass_spec h
  exact ⟨c, fun n z => ⟨fun k h => (by cases h), k, h2, comp, h3⟩, h1⟩
theorem st_ao {s : State} {args : Array Value} {C : String} (h : (Cond.arrayOver (.object C)).before args s = true) : ∃ cA, ArrOfT s cA (.object C) ∧ va_RA s cA (.object C) := by
  obtain ⟨comp, c, k, h1, h2, h3, h4, h5⟩ := Cond.arrayOver_spec h
  exact ⟨c, fun n z => ⟨fun k h => (by cases h), k, h3, comp, h4⟩, k, comp, h3, h4, h1, h5⟩
theorem st_K {s : State} {args : Array Value} (hts : ∀ w ∈ lw_tbl, w.before args s = true) : ∃ g : xG, va_K g.1 vwCl (xTys g) s := by
  obtain ⟨D, hD⟩ := st_cl hts
  obtain ⟨cI, hI⟩ := st_ai (hts (.arrayClass .int) (wm1 (i := 54) rfl))
  obtain ⟨cJ, hJ⟩ := st_al (hts (.arrayClass .long) (wm4 (i := 111) rfl))
  obtain ⟨cZ, hZ⟩ := st_az (hts (.arrayClass .byte) (wm1 (i := 209) rfl))
  obtain ⟨cM, hM⟩ := st_ao (hts (.arrayOver (.object RX3)) (wm1 (i := 33) rfl))
  obtain ⟨cT, hT⟩ := st_ao (hts (.arrayOver (.object RX7)) (wm1 (i := 62) rfl))
  refine ⟨(D, cI, cJ, cZ, cM, cT), hD, fun k q hq => ?_⟩
  match k, hq with
  | 0, hq => cases hq; exact hI
  | 1, hq => cases hq; exact hJ
  | 2, hq => cases hq; exact hZ
  | 3, hq => cases hq; exact hM
  | 4, hq => cases hq; exact hT
  | k + 5, hq => simp [xTys] at hq
theorem st_J {s : State} {args : Array Value} (hts : ∀ w ∈ lw_tbl, w.before args s = true) : xJ s := fun w hw hk => va_Nw.of (by cases w <;> first | rfl | cases hk) (hts w hw)
def nwF : List Cond := flatC (Jvm.Cond.and given_1 narrow_1)
theorem st_Kx {s : State} {args : Array Value} (hs : ∀ w ∈ nwF, w.before args s = true) : xK s := by
  intro q hq
  simp only [xNcs, List.mem_cons, List.not_mem_nil, or_false] at hq
  rcases hq with rfl | rfl | rfl | rfl | rfl | rfl <;> exact va_Nc.of (hs _ (by decide +kernel))
def strOk (w : Cond) : Bool := match w with
  | .stringRef own k _ => decide (Cond.exactly (.string own k) "java/lang/String" ∈ nwF)
  | _ => true
theorem strOk_all : ∀ w ∈ lw_tbl, strOk w = true := by decide +kernel
theorem st_I {s : State} {args : Array Value} {x0 : xV} (hts : ∀ w ∈ lw_tbl, w.before args s = true) (hs : ∀ w ∈ nwF, w.before args s = true) (hA : ∀ a : Nat, a < s.heap.size → ¬ xF x0 a) : xI x0 s s.heap := by
  obtain ⟨t, ht, hT⟩ := va_Tof (args := args) (s := s) (tm := .static RX4 "HANDICAP_POINTS" "[I") (ty := .int) (N := 4) (f := hpV) (A := xF x0) (by decide) (hs _ (by decide +kernel)) (va_eqt (z := Int32.ofNat 4) (hs _ (by decide +kernel))) (fun j hj => by
    match j, hj with
    | 0, _ => exact va_eqt (z := 16) (hs _ (by decide +kernel))
    | 1, _ => exact va_eqt (z := 32) (hs _ (by decide +kernel))
    | 2, _ => exact va_eqt (z := 18) (hs _ (by decide +kernel))
    | 3, _ => exact va_eqt (z := 30) (hs _ (by decide +kernel))
    | j + 4, hj => omega) hA
  refine ⟨⟨t, va_Zref (hts (.laysStatic RX4 "HANDICAP_POINTS" "[I") (wm2 (i := 88) rfl)) (hts (.initialized RX4) (wt_sub _ (wl1 (i := 15) rfl rfl))) ht hA, hT⟩, va_AO.of (hts (.arrayOver (.object RX3)) (wm1 (i := 33) rfl)), va_AO.of (hts (.arrayOver (.object RX7)) (wm1 (i := 62) rfl)), ?_, ?_, fun own k tx h => ?_⟩
  · exact vx_Zqof (hts (.laysStatic Bundle.tN "UNASSIGNED_STACK" Bundle.steD) (wm1 (i := 169) rfl)) (hts (.initialized Bundle.tN) (wm1 (i := 4) rfl)) (hs _ (by decide +kernel)) hA
  · exact vx_Zqof (hts (.laysStatic Bundle.tN "SUPPRESSED_SENTINEL" Bundle.listD) (wm1 (i := 171) rfl)) (hts (.initialized Bundle.tN) (wm1 (i := 4) rfl)) (hs _ (by decide +kernel)) hA
  · have h1 := of_decide_eq_true (strOk_all _ h)
    obtain ⟨a, c, cell, k', e, -⟩ := Cond.exactly_spec (hs _ h1)
    exact ⟨a, vk_R.of (hts _ h) e⟩
/-! the law's first rows -/
def hz0 (sz : Nat) : TH := (sz, fun _ => 0, fun _ => 0, fun _ _ => 0, fun _ _ => 0, fun _ _ => none)
theorem hz0_E {g : xG} {sz : Nat} : thE g (hz0 sz) = x0L sz := rfl
/-- behind the first k of the law's arrays -/
def wK (g : xG) (lo k : Nat) (h : TH) : xV := (lo + k, fun q => match (thE g h).2 q with
  | some e => some e
  | none => if lo ≤ q ∧ q < lo + k then laA g msZ (q - lo) else none)
theorem wK_0 {g : xG} {h : TH} : wK g (t_sz h) 0 h = thE g h := by
  refine Prod.ext rfl (funext fun q => ?_)
  show (match (thE g h).2 q with | some e => some e | none => if t_sz h ≤ q ∧ q < t_sz h + 0 then laA g msZ (q - t_sz h) else none) = (thE g h).2 q
  cases (thE g h).2 q with
  | some e => rfl
  | none => show (if t_sz h ≤ q ∧ q < t_sz h + 0 then _ else none) = none; rw [if_neg (by omega)]
theorem wK_s {g : xG} {lo k : Nat} {h : TH} {e : va_E} (hk : ∀ a, lo ≤ a → t_kd h a = 0) (he : laA g msZ k = some e) : xNew (wK g lo k h) e = wK g lo (k + 1) h := by
  refine Prod.ext rfl (funext fun q => ?_)
  show (if q = lo + k then some e else (wK g lo k h).2 q) = (match (thE g h).2 q with | some e => some e | none => if lo ≤ q ∧ q < lo + (k + 1) then laA g msZ (q - lo) else none)
  by_cases c : q = lo + k
  · subst c
    rw [if_pos rfl, thE_no (hk _ (by omega))]
    show some e = (if lo ≤ lo + k ∧ lo + k < lo + (k + 1) then laA g msZ (lo + k - lo) else none)
    rw [if_pos (by omega), show lo + k - lo = k by omega, he]
  · rw [if_neg c]
    show (match (thE g h).2 q with | some e => some e | none => if lo ≤ q ∧ q < lo + k then laA g msZ (q - lo) else none) = _
    cases (thE g h).2 q with
    | some e => rfl
    | none =>
      show (if lo ≤ q ∧ q < lo + k then laA g msZ (q - lo) else none) = (if lo ≤ q ∧ q < lo + (k + 1) then laA g msZ (q - lo) else none)
      by_cases d : lo ≤ q ∧ q < lo + k
      · rw [if_pos d, if_pos (by omega)]
      · rw [if_neg d, if_neg (by omega)]
theorem wK_11 {g : xG} {lo : Nat} {h : TH} : wK g lo 11 h = LW g lo (lo + 11, h.2) msZ := by
  refine Prod.ext rfl (funext fun q => ?_)
  show (match (thE g h).2 q with | some e => some e | none => if lo ≤ q ∧ q < lo + 11 then laA g msZ (q - lo) else none) = (xU (thE g (lo + 11, h.2)) (laY g lo msZ)).2 q
  have e0 : (thE g (lo + 11, h.2)).2 q = (thE g h).2 q := rfl
  cases hx : (thE g h).2 q with
  | some e => rw [xU_l (e0.trans hx)]
  | none =>
    rw [xU_r (e0.trans hx)]
    unfold laY
    show (if lo ≤ q ∧ q < lo + 11 then laA g msZ (q - lo) else none) = _
    by_cases d : lo ≤ q
    · rw [if_pos d]
      by_cases d2 : q < lo + 11
      · rw [if_pos ⟨d, d2⟩]
      · rw [if_neg (by omega)]
        have h5 : lar[q - lo]? = none := List.getElem?_eq_none (by show 11 ≤ _; omega)
        simp [laA, h5]
    · rw [if_neg (by omega), if_neg d]
set_option maxHeartbeats 4000000 in
set_option maxRecDepth 100000 in
theorem law_init {b Ls : Nat} {xs : Nat → Int32} {nm : String} {l : Launch} {g : xG} {sz : Nat} (hl : l.stackTraces = false) (hLs : Ls < 2 ^ 31) (hb : b < sz) : AWG (XLw b Ls xs) lw_Z (ML_law nm) room_1 l g (x0L sz) 0 0 (x0L sz) 0 [(0, .ref b)] [] := by
  have hk0 : ∀ a, t_sz (hz0 sz) ≤ a → t_kd (hz0 sz) a = 0 := fun a _ => rfl
  have hRR := start_ok hk0 (sz + 8) rfl (fun a _ => rfl)
  have hk1 : ∀ a, sz + 8 ≤ a → t_kd (hI1 (hz0 sz)) a = 0 := by
    obtain ⟨hI, e, s1, kd, -⟩ := init_ok (h := hz0 sz)
    have e2 : hI = hI1 (hz0 sz) := by rw [init_8] at e; cases e; rfl
    subst e2
    intro a ha
    rw [kd, if_neg (by show ¬ a = sz; omega), if_neg (by show ¬ a = sz + 1; omega), if_neg (by show ¬ a = sz + 2; omega), if_neg (by show ¬ a = sz + 3; omega), if_neg (by show ¬ a = sz + 4; omega), if_neg (by show ¬ a = sz + 5; omega), if_neg (by show ¬ a = sz + 6; omega), if_neg (by show ¬ a = sz + 7; omega)]
    rfl
  rw [← hz0_E (g := g)]
  refine ag_new (thB (tgs 6)) (rfl : vwCl[6]? = some (RX8, TX8, 2)) xtX8.1 xtX8.2.1 (wl1 (i := 18) rfl rfl) (wl1 (i := 19) rfl rfl) (wl1 (i := 1) rfl rfl) (by decide) ⟨Nat.le_of_ble_eq_true rfl, Nat.le_of_ble_eq_true rfl⟩ dL_law_0 ?_
  have e7 : xNew (thE g (hz0 sz)) (.inr (6, thB (tgs 6))) = thE g (s_N (hz0 sz) 7 2) := by
    refine xNew_th (kd := 7) (n := 2) ?_
    have h2 := thC_ob (g := g) (h := s_N (hz0 sz) 7 2) (a := t_sz (hz0 sz)) (ci := 6) (by simp [s_N, t_kd, x_up1]) (by decide)
    rw [thB_eq] at h2
    rw [← h2]
    show _ = thC g (s_N (hz0 sz) 7 2) (t_sz (hz0 sz)) (t_kd (s_N (hz0 sz) 7 2) (t_sz (hz0 sz)))
    rw [show t_kd (s_N (hz0 sz) 7 2) (t_sz (hz0 sz)) = 7 by simp [s_N, t_kd, x_up1]]
  rw [e7]
  refine ag_dup dL_law_3 rfl ?_
  refine ag_callI sz [] 0 rfl rfl (ctX8_init (g := g) hl (s_N (hz0 sz) 7 2) sz init_8) ⟨wl1 (i := 20) rfl rfl, ciX8_init.1, ciX8_init.2.1, ciX8_init.2.2⟩ (wl1 (i := 21) rfl rfl) dL_law_4 rfl rfl (by simp [cat_q, cat_i, cat_l, cat_r]) ⟨Nat.le_of_ble_eq_true rfl, Nat.le_of_ble_eq_true rfl⟩ ⟨Nat.le_of_ble_eq_true rfl, Nat.le_of_ble_eq_true rfl⟩ (fun _ => ?_)
  refine ag_qstore_n [(1, va_rf (some sz)), (0, .ref b)] (r := some sz) dL_law_7 rfl (show 1 < 15 by decide) rfl ?_
  rw [show thE g (hI1 (hz0 sz)) = wK g (sz + 8) 0 (hI1 (hz0 sz)) from wK_0.symm]
  refine ag_bipush (64 : Int32) dL_law_8 (by decide) ?_
  refine ag_newa 1 (atype := .long) (ty := .long) (cB := g.2.2.1) (N := 64) (a0 := (64, .inr (.inl (fun _ => 0)))) rfl (Or.inr (Or.inl rfl)) rfl (wl4 (i := 111) rfl rfl) rfl (by decide) (by decide) (by decide) ⟨Nat.le_of_ble_eq_true rfl, Nat.le_of_ble_eq_true rfl⟩ dL_law_10 ?_
  rw [show xNew (wK g (sz + 8) 0 (hI1 (hz0 sz))) (.inl (g.2.2.1, (64, .inr (.inl (fun _ => 0))))) = wK g (sz + 8) 1 (hI1 (hz0 sz)) from wK_s hk1 rfl]
  refine ag_qstore_n [(2, .ref (sz + 8 + 0)), (1, va_rf (some sz)), (0, .ref b)] (r := some (sz + 8 + 0)) dL_law_12 rfl (show 2 < 15 by decide) rfl ?_
  refine ag_bipush (64 : Int32) dL_law_13 (by decide) ?_
  refine ag_newa 1 (atype := .long) (ty := .long) (cB := g.2.2.1) (N := 64) (a0 := (64, .inr (.inl (fun _ => 0)))) rfl (Or.inr (Or.inl rfl)) rfl (wl4 (i := 111) rfl rfl) rfl (by decide) (by decide) (by decide) ⟨Nat.le_of_ble_eq_true rfl, Nat.le_of_ble_eq_true rfl⟩ dL_law_15 ?_
  rw [show xNew (wK g (sz + 8) 1 (hI1 (hz0 sz))) (.inl (g.2.2.1, (64, .inr (.inl (fun _ => 0))))) = wK g (sz + 8) 2 (hI1 (hz0 sz)) from wK_s hk1 rfl]
  refine ag_qstore_n [(3, .ref (sz + 8 + 1)), (2, .ref (sz + 8 + 0)), (1, va_rf (some sz)), (0, .ref b)] (r := some (sz + 8 + 1)) dL_law_17 rfl (show 3 < 15 by decide) rfl ?_
  refine ag_bipush (64 : Int32) dL_law_18 (by decide) ?_
  refine ag_newa 0 (atype := .int) (ty := .int) (cB := g.2.1) (N := 64) (a0 := (64, .inl (fun _ => 0))) rfl (Or.inl rfl) rfl (wl1 (i := 54) rfl rfl) rfl (by decide) (by decide) (by decide) ⟨Nat.le_of_ble_eq_true rfl, Nat.le_of_ble_eq_true rfl⟩ dL_law_20 ?_
  rw [show xNew (wK g (sz + 8) 2 (hI1 (hz0 sz))) (.inl (g.2.1, (64, .inl (fun _ => 0)))) = wK g (sz + 8) 3 (hI1 (hz0 sz)) from wK_s hk1 rfl]
  refine ag_qstore [(4, .ref (sz + 8 + 2)), (3, .ref (sz + 8 + 1)), (2, .ref (sz + 8 + 0)), (1, va_rf (some sz)), (0, .ref b)] (r := some (sz + 8 + 2)) dL_law_22 (show 4 < 15 by decide) rfl ?_
  refine ag_bipush (24 : Int32) dL_law_24 (by decide) ?_
  refine ag_newa 0 (atype := .int) (ty := .int) (cB := g.2.1) (N := 24) (a0 := (24, .inl (fun _ => 0))) rfl (Or.inl rfl) rfl (wl1 (i := 54) rfl rfl) rfl (by decide) (by decide) (by decide) ⟨Nat.le_of_ble_eq_true rfl, Nat.le_of_ble_eq_true rfl⟩ dL_law_26 ?_
  rw [show xNew (wK g (sz + 8) 3 (hI1 (hz0 sz))) (.inl (g.2.1, (24, .inl (fun _ => 0)))) = wK g (sz + 8) 4 (hI1 (hz0 sz)) from wK_s hk1 rfl]
  refine ag_qstore [(5, .ref (sz + 8 + 3)), (4, .ref (sz + 8 + 2)), (3, .ref (sz + 8 + 1)), (2, .ref (sz + 8 + 0)), (1, va_rf (some sz)), (0, .ref b)] (r := some (sz + 8 + 3)) dL_law_28 (show 5 < 15 by decide) rfl ?_
  refine ag_bipush (64 : Int32) dL_law_30 (by decide) ?_
  refine ag_newa 0 (atype := .int) (ty := .int) (cB := g.2.1) (N := 64) (a0 := (64, .inl (fun _ => 0))) rfl (Or.inl rfl) rfl (wl1 (i := 54) rfl rfl) rfl (by decide) (by decide) (by decide) ⟨Nat.le_of_ble_eq_true rfl, Nat.le_of_ble_eq_true rfl⟩ dL_law_32 ?_
  rw [show xNew (wK g (sz + 8) 4 (hI1 (hz0 sz))) (.inl (g.2.1, (64, .inl (fun _ => 0)))) = wK g (sz + 8) 5 (hI1 (hz0 sz)) from wK_s hk1 rfl]
  refine ag_qstore [(6, .ref (sz + 8 + 4)), (5, .ref (sz + 8 + 3)), (4, .ref (sz + 8 + 2)), (3, .ref (sz + 8 + 1)), (2, .ref (sz + 8 + 0)), (1, va_rf (some sz)), (0, .ref b)] (r := some (sz + 8 + 4)) dL_law_34 (show 6 < 15 by decide) rfl ?_
  refine ag_bipush (64 : Int32) dL_law_36 (by decide) ?_
  refine ag_newa 0 (atype := .int) (ty := .int) (cB := g.2.1) (N := 64) (a0 := (64, .inl (fun _ => 0))) rfl (Or.inl rfl) rfl (wl1 (i := 54) rfl rfl) rfl (by decide) (by decide) (by decide) ⟨Nat.le_of_ble_eq_true rfl, Nat.le_of_ble_eq_true rfl⟩ dL_law_38 ?_
  rw [show xNew (wK g (sz + 8) 5 (hI1 (hz0 sz))) (.inl (g.2.1, (64, .inl (fun _ => 0)))) = wK g (sz + 8) 6 (hI1 (hz0 sz)) from wK_s hk1 rfl]
  refine ag_qstore [(7, .ref (sz + 8 + 5)), (6, .ref (sz + 8 + 4)), (5, .ref (sz + 8 + 3)), (4, .ref (sz + 8 + 2)), (3, .ref (sz + 8 + 1)), (2, .ref (sz + 8 + 0)), (1, va_rf (some sz)), (0, .ref b)] (r := some (sz + 8 + 5)) dL_law_40 (show 7 < 15 by decide) rfl ?_
  refine ag_bipush (48 : Int32) dL_law_42 (by decide) ?_
  refine ag_newa 0 (atype := .int) (ty := .int) (cB := g.2.1) (N := 48) (a0 := (48, .inl (fun _ => 0))) rfl (Or.inl rfl) rfl (wl1 (i := 54) rfl rfl) rfl (by decide) (by decide) (by decide) ⟨Nat.le_of_ble_eq_true rfl, Nat.le_of_ble_eq_true rfl⟩ dL_law_44 ?_
  rw [show xNew (wK g (sz + 8) 6 (hI1 (hz0 sz))) (.inl (g.2.1, (48, .inl (fun _ => 0)))) = wK g (sz + 8) 7 (hI1 (hz0 sz)) from wK_s hk1 rfl]
  refine ag_qstore [(8, .ref (sz + 8 + 6)), (7, .ref (sz + 8 + 5)), (6, .ref (sz + 8 + 4)), (5, .ref (sz + 8 + 3)), (4, .ref (sz + 8 + 2)), (3, .ref (sz + 8 + 1)), (2, .ref (sz + 8 + 0)), (1, va_rf (some sz)), (0, .ref b)] (r := some (sz + 8 + 6)) dL_law_46 (show 8 < 15 by decide) rfl ?_
  refine ag_iconst (5 : Int32) dL_law_48 (by decide) ?_
  refine ag_newa 0 (atype := .int) (ty := .int) (cB := g.2.1) (N := 5) (a0 := (5, .inl (fun _ => 0))) rfl (Or.inl rfl) rfl (wl1 (i := 54) rfl rfl) rfl (by decide) (by decide) (by decide) ⟨Nat.le_of_ble_eq_true rfl, Nat.le_of_ble_eq_true rfl⟩ dL_law_49 ?_
  rw [show xNew (wK g (sz + 8) 7 (hI1 (hz0 sz))) (.inl (g.2.1, (5, .inl (fun _ => 0)))) = wK g (sz + 8) 8 (hI1 (hz0 sz)) from wK_s hk1 rfl]
  refine ag_qstore [(9, .ref (sz + 8 + 7)), (8, .ref (sz + 8 + 6)), (7, .ref (sz + 8 + 5)), (6, .ref (sz + 8 + 4)), (5, .ref (sz + 8 + 3)), (4, .ref (sz + 8 + 2)), (3, .ref (sz + 8 + 1)), (2, .ref (sz + 8 + 0)), (1, va_rf (some sz)), (0, .ref b)] (r := some (sz + 8 + 7)) dL_law_51 (show 9 < 15 by decide) rfl ?_
  refine ag_bipush (60 : Int32) dL_law_53 (by decide) ?_
  refine ag_newa 0 (atype := .int) (ty := .int) (cB := g.2.1) (N := 60) (a0 := (60, .inl (fun _ => 0))) rfl (Or.inl rfl) rfl (wl1 (i := 54) rfl rfl) rfl (by decide) (by decide) (by decide) ⟨Nat.le_of_ble_eq_true rfl, Nat.le_of_ble_eq_true rfl⟩ dL_law_55 ?_
  rw [show xNew (wK g (sz + 8) 8 (hI1 (hz0 sz))) (.inl (g.2.1, (60, .inl (fun _ => 0)))) = wK g (sz + 8) 9 (hI1 (hz0 sz)) from wK_s hk1 rfl]
  refine ag_qstore [(10, .ref (sz + 8 + 8)), (9, .ref (sz + 8 + 7)), (8, .ref (sz + 8 + 6)), (7, .ref (sz + 8 + 5)), (6, .ref (sz + 8 + 4)), (5, .ref (sz + 8 + 3)), (4, .ref (sz + 8 + 2)), (3, .ref (sz + 8 + 1)), (2, .ref (sz + 8 + 0)), (1, va_rf (some sz)), (0, .ref b)] (r := some (sz + 8 + 8)) dL_law_57 (show 10 < 15 by decide) rfl ?_
  refine ag_bipush (60 : Int32) dL_law_59 (by decide) ?_
  refine ag_newa 0 (atype := .int) (ty := .int) (cB := g.2.1) (N := 60) (a0 := (60, .inl (fun _ => 0))) rfl (Or.inl rfl) rfl (wl1 (i := 54) rfl rfl) rfl (by decide) (by decide) (by decide) ⟨Nat.le_of_ble_eq_true rfl, Nat.le_of_ble_eq_true rfl⟩ dL_law_61 ?_
  rw [show xNew (wK g (sz + 8) 9 (hI1 (hz0 sz))) (.inl (g.2.1, (60, .inl (fun _ => 0)))) = wK g (sz + 8) 10 (hI1 (hz0 sz)) from wK_s hk1 rfl]
  refine ag_qstore [(11, .ref (sz + 8 + 9)), (10, .ref (sz + 8 + 8)), (9, .ref (sz + 8 + 7)), (8, .ref (sz + 8 + 6)), (7, .ref (sz + 8 + 5)), (6, .ref (sz + 8 + 4)), (5, .ref (sz + 8 + 3)), (4, .ref (sz + 8 + 2)), (3, .ref (sz + 8 + 1)), (2, .ref (sz + 8 + 0)), (1, va_rf (some sz)), (0, .ref b)] (r := some (sz + 8 + 9)) dL_law_63 (show 11 < 15 by decide) rfl ?_
  refine ag_iconst (2 : Int32) dL_law_65 (by decide) ?_
  refine ag_newa 1 (atype := .long) (ty := .long) (cB := g.2.2.1) (N := 2) (a0 := (2, .inr (.inl (fun _ => 0)))) rfl (Or.inr (Or.inl rfl)) rfl (wl4 (i := 111) rfl rfl) rfl (by decide) (by decide) (by decide) ⟨Nat.le_of_ble_eq_true rfl, Nat.le_of_ble_eq_true rfl⟩ dL_law_66 ?_
  rw [show xNew (wK g (sz + 8) 10 (hI1 (hz0 sz))) (.inl (g.2.2.1, (2, .inr (.inl (fun _ => 0))))) = wK g (sz + 8) 11 (hI1 (hz0 sz)) from wK_s hk1 rfl]
  refine ag_qstore [(12, .ref (sz + 8 + 10)), (11, .ref (sz + 8 + 9)), (10, .ref (sz + 8 + 8)), (9, .ref (sz + 8 + 7)), (8, .ref (sz + 8 + 6)), (7, .ref (sz + 8 + 5)), (6, .ref (sz + 8 + 4)), (5, .ref (sz + 8 + 3)), (4, .ref (sz + 8 + 2)), (3, .ref (sz + 8 + 1)), (2, .ref (sz + 8 + 0)), (1, va_rf (some sz)), (0, .ref b)] (r := some (sz + 8 + 10)) dL_law_68 (show 12 < 15 by decide) rfl ?_
  rw [wK_11]
  have hD := hRR.ld
  have hw := wkL_law_start (nm := nm) (g := g) (sz := sz) (b := b) (lo := sz + 8) (t := sz) (Ls := Ls) (xs := xs) (K := fun _ _ _ => True) (kc := 100) (ks := 14000) hl (by omega) ⟨hb, rfl⟩ (sz + 8 + 11, (hI1 (hz0 sz)).2) msZ hD ⟨by decide, by decide⟩ (law_ok hLs (tie_0 hRR) rfl)
  refine ag_widen 100 14000 (Nat.le_of_ble_eq_true rfl) (Nat.le_of_ble_eq_true rfl) ?_
  exact ag_lv [12, 11, 10, 9, 8, 7, 6, 5, 4, 3, 2, 1, 0] rfl hw
