/-! The law's world: the landed class's objects, the reference, and out. -/
def LY (g : xG) (mo : Nat) (S : MS) (o : Nat → Int64) : Nat → Option va_E := fun a => match (moE g mo 0 S).2 a with | some e => some e | none => if a = mo + 39 then some (.inl (g.2.2.1, 1, .inr (.inl o))) else none
def LW (g : xG) (mo : Nat) (h : TH) (S : MS) (o : Nat → Int64) : xV := xU (thE g h) (LY g mo S o)
def LD (mo : Nat) (h : TH) : Prop := mo + 40 ≤ t_sz h ∧ (∀ a, mo ≤ a → a < mo + 40 → t_kd h a = 0) ∧ ∀ a, t_sz h ≤ a → t_kd h a = 0
theorem moE_lo {g : xG} {mo sz a : Nat} {S : MS} (h : a < mo) : (moE g mo sz S).2 a = none := by
  show (if a = mo then some (.inr (7, moF mo S)) else if mo < a then moA g S (a - mo - 1) else none) = none
  rw [if_neg (by omega), if_neg (by omega)]
theorem moE_hi {g : xG} {mo sz a : Nat} {S : MS} (h : mo + 39 ≤ a) : (moE g mo sz S).2 a = none := by
  show (if a = mo then some (.inr (7, moF mo S)) else if mo < a then moA g S (a - mo - 1) else none) = none
  rw [if_neg (by omega), if_pos (by omega)]
  have h5 : mar[a - mo - 1]? = none := List.getElem?_eq_none (by show 38 ≤ _; omega)
  simp [moA, h5]
theorem LY_out {g : xG} {mo : Nat} {S : MS} {o : Nat → Int64} : LY g mo S o (mo + 39) = some (.inl (g.2.2.1, 1, .inr (.inl o))) := by
  unfold LY
  rw [moE_hi (Nat.le_refl _)]
  simp
theorem LY_dom {g : xG} {mo a : Nat} {S : MS} {o : Nat → Int64} (h : LY g mo S o a ≠ none) : mo ≤ a ∧ a < mo + 40 := by
  unfold LY at h
  rcases Nat.lt_or_ge a mo with h1 | h1
  · rw [moE_lo h1] at h
    by_cases h2 : a = mo + 39
    · omega
    · rw [show (match (none : Option va_E) with | some e => some e | none => if a = mo + 39 then some (.inl (g.2.2.1, 1, .inr (.inl o))) else none) = (if a = mo + 39 then some (.inl (g.2.2.1, 1, .inr (.inl o))) else none : Option va_E) from rfl, if_neg h2] at h
      exact absurd rfl h
  · refine ⟨h1, ?_⟩
    rcases Nat.lt_or_ge a (mo + 40) with h3 | h3
    · exact h3
    · rw [moE_hi (by omega)] at h
      rw [show (match (none : Option va_E) with | some e => some e | none => if a = mo + 39 then some (.inl (g.2.2.1, 1, .inr (.inl o))) else none) = (if a = mo + 39 then some (.inl (g.2.2.1, 1, .inr (.inl o))) else none : Option va_E) from rfl, if_neg (by omega)] at h
      exact absurd rfl h
theorem thE_no {g : xG} {h : TH} {a : Nat} (hk : t_kd h a = 0) : (thE g h).2 a = none := by
  show thC g h a (t_kd h a) = none
  rw [hk]; rfl
theorem LD.dj {g : xG} {mo : Nat} {h : TH} {S : MS} {o : Nat → Int64} (hD : LD mo h) : ∀ a, LY g mo S o a ≠ none → (thE g h).2 a = none ∧ a < (thE g h).1 := fun a ha => by
  obtain ⟨h1, h2⟩ := LY_dom ha
  exact ⟨thE_no (hD.2.1 a h1 h2), Nat.lt_of_lt_of_le h2 hD.1⟩
theorem LW_out {g : xG} {mo : Nat} {h : TH} {S : MS} {o : Nat → Int64} (hD : LD mo h) : (LW g mo h S o).2 (mo + 39) = some (.inl (g.2.2.1, 1, .inr (.inl o))) := by
  unfold LW
  rw [xU_r (thE_no (hD.2.1 _ (by omega) (by omega)))]
  exact LY_out
theorem LW_set {g : xG} {mo : Nat} {h : TH} {S : MS} {o o2 : Nat → Int64} (hD : LD mo h) : xUp (LW g mo h S o) (mo + 39) (.inl (g.2.2.1, 1, .inr (.inl o2))) = LW g mo h S o2 := by
  refine Prod.ext rfl (funext fun q => ?_)
  show (if q = mo + 39 then some (.inl (g.2.2.1, 1, .inr (.inl o2))) else (LW g mo h S o).2 q) = (LW g mo h S o2).2 q
  by_cases hq : q = mo + 39
  · subst hq; rw [if_pos rfl, LW_out hD]
  · rw [if_neg hq]
    unfold LW
    cases hx : (thE g h).2 q with
    | some e => rw [xU_l hx, xU_l hx]
    | none =>
      rw [xU_r hx, xU_r hx]
      unfold LY
      cases (moE g mo 0 S).2 q with
      | some e => rfl
      | none => show (if q = mo + 39 then _ else none) = (if q = mo + 39 then _ else none); rw [if_neg hq, if_neg hq]
theorem vin0 : vp_in (0 : Int32) 1 := fun h => h.elim (by decide) (by decide)
/-- the same world, the reference's part first -/
def LYm (g : xG) (mo : Nat) (h : TH) (o : Nat → Int64) : Nat → Option va_E := fun a => match (thE g h).2 a with | some e => some e | none => if a = mo + 39 then some (.inl (g.2.2.1, 1, .inr (.inl o))) else none
theorem LW_m {g : xG} {mo : Nat} {h : TH} {S : MS} {o : Nat → Int64} (hD : LD mo h) : LW g mo h S o = xU (moE g mo (t_sz h) S) (LYm g mo h o) := by
  refine Prod.ext rfl (funext fun q => ?_)
  have hm : (moE g mo 0 S).2 q = (moE g mo (t_sz h) S).2 q := rfl
  unfold LW
  cases hx : (thE g h).2 q with
  | some e =>
    rw [xU_l hx]
    have h0 : (moE g mo (t_sz h) S).2 q = none := by
      rcases Nat.lt_or_ge q mo with h1 | h1
      · exact moE_lo h1
      · rcases Nat.lt_or_ge q (mo + 39) with h3 | h3
        · rw [thE_no (hD.2.1 q h1 (by omega))] at hx; cases hx
        · exact moE_hi h3
    rw [xU_r h0]
    unfold LYm
    rw [hx]
  | none =>
    rw [xU_r hx]
    unfold LY
    cases h0 : (moE g mo (t_sz h) S).2 q with
    | some e => rw [xU_l h0, hm, h0]
    | none => rw [xU_r h0, hm, h0]; unfold LYm; rw [hx]
theorem LD.djm {g : xG} {mo : Nat} {h : TH} {S : MS} {o : Nat → Int64} (hD : LD mo h) : ∀ a, LYm g mo h o a ≠ none → (moE g mo (t_sz h) S).2 a = none ∧ a < (moE g mo (t_sz h) S).1 := fun a ha => by
  unfold LYm at ha
  cases hx : (thE g h).2 a with
  | some e =>
    constructor
    · rcases Nat.lt_or_ge a mo with h1 | h1
      · exact moE_lo h1
      · rcases Nat.lt_or_ge a (mo + 39) with h3 | h3
        · rw [thE_no (hD.2.1 a h1 (by omega))] at hx; cases hx
        · exact moE_hi h3
    · show a < t_sz h
      rcases Nat.lt_or_ge a (t_sz h) with h1 | h1
      · exact h1
      · rw [thE_no (hD.2.2 a h1)] at hx; cases hx
  | none =>
    rw [hx] at ha
    by_cases hq : a = mo + 39
    · subst hq
      exact ⟨moE_hi (Nat.le_refl _), by show mo + 39 < t_sz h; have := hD.1; omega⟩
    · rw [show (match (none : Option va_E) with | some e => some e | none => if a = mo + 39 then some (.inl (g.2.2.1, 1, .inr (.inl o))) else none) = (if a = mo + 39 then some (.inl (g.2.2.1, 1, .inr (.inl o))) else none : Option va_E) from rfl, if_neg hq] at ha
      exact absurd rfl ha
/-- the same objects in a bigger heap -/
def s_Z (h : TH) (z : Nat) : TH := (z, h.2)
theorem thE_Z {g : xG} {h : TH} {z : Nat} : thE g (s_Z h z) = (z, (thE g h).2) := rfl
theorem LW_Z {g : xG} {mo z : Nat} {h : TH} {S : MS} {o : Nat → Int64} : LW g mo (s_Z h z) S o = (z, (LW g mo h S o).2) := rfl
theorem LD.Z {mo z : Nat} {h : TH} (hD : LD mo h) (hz : t_sz h ≤ z) : LD mo (s_Z h z) := ⟨Nat.le_trans hD.1 hz, hD.2.1, fun a ha => hD.2.2 a (Nat.le_trans hz ha)⟩
abbrev ML_branch : xM := ("AtariGardenLaw", cL_branch, 5, some .int, "branch")
abbrev rmL_branch : Room := { frames := 8, cells := 6, slots := 36, locals := 171 }
abbrev hhL_branch : List (Nat × Nat × Nat × Nat) := [(0, 10, 13, 20), (0, 10, 17, 15)]
theorem ciL_branch : Cond.codeWith yL_branch cL_branch 5 (some .int) hhL_branch ∈ wt ∧ Cond.initialized yL_branch.cls ∈ wt ∧ (yL_branch.cls ≠ "java/lang/invoke/MethodHandle" ∧ yL_branch.cls ≠ "java/lang/invoke/VarHandle" ∧ (parseMethodDescriptor yL_branch.desc).map (fun d => d.parameters.length) = some 4) := ⟨wl3 (i := 239) rfl rfl, wl1 (i := 0) rfl rfl, by decide +kernel, by decide +kernel, by decide +kernel⟩
set_option maxHeartbeats 4000000 in
set_option maxRecDepth 100000 in
theorem wtL_branch_0 {l : Launch} {g : xG} (hl : l.stackTraces = false) {mo : Nat} {S : MS} {o : Nat → Int64} {h h2 : TH} (t : Nat) (hk : t_kd h t = 7) (hD : LD mo h) (hD2 : LD mo h2) (a1 : Int32) (a2 : Int32) {v : Int32} (hf : fX8_branch h t a1 a2 = some (.inl (v, h2))) : WT yL_branch ML_branch hhL_branch rmL_branch l g [va_rf (some t), .int a1, .int a2, .ref (mo + 39)] (LW g mo h S o) 0 (LW g mo h2 S (vp_updL o 0 v.toInt64)) := by
  refine WT.of (lv0 := [(0, va_rf (some t)), (1, .int a1), (2, .int a2), (3, .ref (mo + 39))]) (by decide +kernel) rfl rfl (by simp [lg_sl, cat_q, cat_i, cat_l, cat_r]) (by simp [lv_args, cat_q, cat_i, cat_l, cat_r]) hl ?_
  have hx : (LW g mo h S o).2 t = some (.inr (6, thF h t (tgs 6))) := xU_l (thC_ob (ci := 6) hk (by decide))
  have hct : CT yX8_branch MX8_branch rmX8_branch l g [va_rf (some t), .int a1, .int a2] (LW g mo h S o) (.inl (some (.int v))) (LW g mo h2 S o) := (ctX8_branch (g := g) hl h t a1 a2 hf).frame (LD.dj (S := S) (o := o) hD)
  refine ag_aload_n 3 dL_branch_0 rfl ?_
  refine ag_iconst (0 : Int32) dL_branch_1 rfl ?_
  refine ag_qload_n 0 dL_branch_2 rfl ?_
  refine ag_iload_n 1 dL_branch_3 rfl ?_
  refine ag_iload_n 2 dL_branch_4 rfl ?_
  refine ag_callV 6 (some t) [.int a1, .int a2] 2 rfl hx rfl rfl hct ⟨wl4 (i := 0) rfl rfl, (ciX8_branch).1, (ciX8_branch).2.1, (ciX8_branch).2.2⟩ (wl4 (i := 1) rfl rfl) (wl4 (i := 2) rfl rfl) dL_branch_5 rfl rfl (by simp [cat_q, cat_i, cat_l, cat_r]) ⟨Nat.le_of_ble_eq_true rfl, Nat.le_of_ble_eq_true rfl⟩ ⟨Nat.le_of_ble_eq_true rfl, Nat.le_of_ble_eq_true rfl⟩ (fun _ => ?_)
  refine ag_i2l dL_branch_8 ?_
  refine ag_last (LW_out hD2) vin0 dL_branch_9 ?_
  rw [LW_set hD2]
  refine ag_goto 21 dL_branch_10 (by decide) ?_
  refine ag_iconst (0 : Int32) dL_branch_21 rfl ?_
  exact agw_ret dL_branch_22 rfl rfl (Nat.le_refl _) ⟨Nat.le_of_ble_eq_true rfl, Nat.le_of_ble_eq_true rfl⟩
set_option maxHeartbeats 4000000 in
set_option maxRecDepth 100000 in
theorem wtL_branch_1 {l : Launch} {g : xG} (hl : l.stackTraces = false) {mo : Nat} {S : MS} {o : Nat → Int64} {h h2 : TH} (t : Nat) (hk : t_kd h t = 7) (hD : LD mo h) (hD2 : LD mo h2) (a1 : Int32) (a2 : Int32) (hf : fX8_branch h t a1 a2 = some (.inr ("java/lang/IndexOutOfBoundsException", h2))) : WT yL_branch ML_branch hhL_branch rmL_branch l g [va_rf (some t), .int a1, .int a2, .ref (mo + 39)] (LW g mo h S o) 1 (LW g mo h2 S o) := by
  refine WT.of (lv0 := [(0, va_rf (some t)), (1, .int a1), (2, .int a2), (3, .ref (mo + 39))]) (by decide +kernel) rfl rfl (by simp [lg_sl, cat_q, cat_i, cat_l, cat_r]) (by simp [lv_args, cat_q, cat_i, cat_l, cat_r]) hl ?_
  have hx : (LW g mo h S o).2 t = some (.inr (6, thF h t (tgs 6))) := xU_l (thC_ob (ci := 6) hk (by decide))
  have hct : CT yX8_branch MX8_branch rmX8_branch l g [va_rf (some t), .int a1, .int a2] (LW g mo h S o) (.inr "java/lang/IndexOutOfBoundsException") (LW g mo h2 S o) := (ctX8_branch (g := g) hl h t a1 a2 hf).frame (LD.dj (S := S) (o := o) hD)
  refine ag_aload_n 3 dL_branch_0 rfl ?_
  refine ag_iconst (0 : Int32) dL_branch_1 rfl ?_
  refine ag_qload_n 0 dL_branch_2 rfl ?_
  refine ag_iload_n 1 dL_branch_3 rfl ?_
  refine ag_iload_n 2 dL_branch_4 rfl ?_
  refine agw_catch 6 (some t) [.int a1, .int a2] 2 [] ⟨0, 10, 13, 20⟩ [⟨0, 10, 17, 15⟩] rfl (fun z hz => by
    cases hz) (by decide) (by decide) (wl1 (i := 233) rfl rfl) (wm2 (i := 8) rfl) rfl hx rfl rfl hct ⟨wl4 (i := 0) rfl rfl, (ciX8_branch).1, (ciX8_branch).2.1, (ciX8_branch).2.2⟩ (wl4 (i := 1) rfl rfl) (wl4 (i := 2) rfl rfl) dL_branch_5 rfl rfl (by simp [cat_q, cat_i, cat_l, cat_r]) ⟨Nat.le_of_ble_eq_true rfl, Nat.le_of_ble_eq_true rfl⟩ ⟨Nat.le_of_ble_eq_true rfl, Nat.le_of_ble_eq_true rfl⟩ (fun z b hz _ => ?_)
  refine ag_qstore _ (r := some b) dL_branch_13 (by decide) rfl ?_
  refine ag_iconst (1 : Int32) dL_branch_15 rfl ?_
  exact agw_ret dL_branch_16 rfl rfl hz ⟨Nat.le_of_ble_eq_true rfl, Nat.le_of_ble_eq_true rfl⟩
set_option maxHeartbeats 4000000 in
set_option maxRecDepth 100000 in
theorem wtL_branch_2 {l : Launch} {g : xG} (hl : l.stackTraces = false) {mo : Nat} {S : MS} {o : Nat → Int64} {h h2 : TH} (t : Nat) (hk : t_kd h t = 7) (hD : LD mo h) (hD2 : LD mo h2) (a1 : Int32) (a2 : Int32) (hf : fX8_branch h t a1 a2 = some (.inr ("java/lang/IllegalStateException", h2))) : WT yL_branch ML_branch hhL_branch rmL_branch l g [va_rf (some t), .int a1, .int a2, .ref (mo + 39)] (LW g mo h S o) 2 (LW g mo h2 S o) := by
  refine WT.of (lv0 := [(0, va_rf (some t)), (1, .int a1), (2, .int a2), (3, .ref (mo + 39))]) (by decide +kernel) rfl rfl (by simp [lg_sl, cat_q, cat_i, cat_l, cat_r]) (by simp [lv_args, cat_q, cat_i, cat_l, cat_r]) hl ?_
  have hx : (LW g mo h S o).2 t = some (.inr (6, thF h t (tgs 6))) := xU_l (thC_ob (ci := 6) hk (by decide))
  have hct : CT yX8_branch MX8_branch rmX8_branch l g [va_rf (some t), .int a1, .int a2] (LW g mo h S o) (.inr "java/lang/IllegalStateException") (LW g mo h2 S o) := (ctX8_branch (g := g) hl h t a1 a2 hf).frame (LD.dj (S := S) (o := o) hD)
  refine ag_aload_n 3 dL_branch_0 rfl ?_
  refine ag_iconst (0 : Int32) dL_branch_1 rfl ?_
  refine ag_qload_n 0 dL_branch_2 rfl ?_
  refine ag_iload_n 1 dL_branch_3 rfl ?_
  refine ag_iload_n 2 dL_branch_4 rfl ?_
  refine agw_catch 6 (some t) [.int a1, .int a2] 2 [⟨0, 10, 13, 20⟩] ⟨0, 10, 17, 15⟩ [] rfl (fun z hz => by
    simp only [List.mem_cons, List.not_mem_nil, or_false] at hz
    subst hz
    exact ⟨by decide, "java/lang/IndexOutOfBoundsException", wl1 (i := 233) rfl rfl, by decide⟩) (by decide) (by decide) (wl1 (i := 134) rfl rfl) (wm1 (i := 216) rfl) rfl hx rfl rfl hct ⟨wl4 (i := 0) rfl rfl, (ciX8_branch).1, (ciX8_branch).2.1, (ciX8_branch).2.2⟩ (wl4 (i := 1) rfl rfl) (wl4 (i := 2) rfl rfl) dL_branch_5 rfl rfl (by simp [cat_q, cat_i, cat_l, cat_r]) ⟨Nat.le_of_ble_eq_true rfl, Nat.le_of_ble_eq_true rfl⟩ ⟨Nat.le_of_ble_eq_true rfl, Nat.le_of_ble_eq_true rfl⟩ (fun z b hz _ => ?_)
  refine ag_qstore _ (r := some b) dL_branch_17 (by decide) rfl ?_
  refine ag_iconst (2 : Int32) dL_branch_19 rfl ?_
  exact agw_ret dL_branch_20 rfl rfl hz ⟨Nat.le_of_ble_eq_true rfl, Nat.le_of_ble_eq_true rfl⟩
abbrev ML_clock : xM := ("AtariGardenLaw", cL_clock, 5, some .int, "clock")
abbrev rmL_clock : Room := { frames := 8, cells := 2, slots := 12, locals := 143 }
abbrev hhL_clock : List (Nat × Nat × Nat × Nat) := [(0, 10, 13, 20)]
theorem ciL_clock : Cond.codeWith yL_clock cL_clock 5 (some .int) hhL_clock ∈ wt ∧ Cond.initialized yL_clock.cls ∈ wt ∧ (yL_clock.cls ≠ "java/lang/invoke/MethodHandle" ∧ yL_clock.cls ≠ "java/lang/invoke/VarHandle" ∧ (parseMethodDescriptor yL_clock.desc).map (fun d => d.parameters.length) = some 4) := ⟨wl3 (i := 77) rfl rfl, wl1 (i := 0) rfl rfl, by decide +kernel, by decide +kernel, by decide +kernel⟩
set_option maxHeartbeats 4000000 in
set_option maxRecDepth 100000 in
theorem wtL_clock_0 {l : Launch} {g : xG} (hl : l.stackTraces = false) {mo : Nat} {S : MS} {o : Nat → Int64} {h h2 : TH} (t : Nat) (hk : t_kd h t = 7) (hD : LD mo h) (hD2 : LD mo h2) (a1 : Int32) (a2 : Int32) {v : Int32} (hf : fX8_clock h t a1 a2 = some (.inl (v, h2))) : WT yL_clock ML_clock hhL_clock rmL_clock l g [va_rf (some t), .int a1, .int a2, .ref (mo + 39)] (LW g mo h S o) 0 (LW g mo h2 S (vp_updL o 0 v.toInt64)) := by
  refine WT.of (lv0 := [(0, va_rf (some t)), (1, .int a1), (2, .int a2), (3, .ref (mo + 39))]) (by decide +kernel) rfl rfl (by simp [lg_sl, cat_q, cat_i, cat_l, cat_r]) (by simp [lv_args, cat_q, cat_i, cat_l, cat_r]) hl ?_
  have hx : (LW g mo h S o).2 t = some (.inr (6, thF h t (tgs 6))) := xU_l (thC_ob (ci := 6) hk (by decide))
  have hct : CT yX8_clock MX8_clock rmX8_clock l g [va_rf (some t), .int a1, .int a2] (LW g mo h S o) (.inl (some (.int v))) (LW g mo h2 S o) := (ctX8_clock (g := g) hl h t a1 a2 hf).frame (LD.dj (S := S) (o := o) hD)
  refine ag_aload_n 3 dL_clock_0 rfl ?_
  refine ag_iconst (0 : Int32) dL_clock_1 rfl ?_
  refine ag_qload_n 0 dL_clock_2 rfl ?_
  refine ag_iload_n 1 dL_clock_3 rfl ?_
  refine ag_iload_n 2 dL_clock_4 rfl ?_
  refine ag_callV 6 (some t) [.int a1, .int a2] 2 rfl hx rfl rfl hct ⟨wl3 (i := 78) rfl rfl, (ciX8_clock).1, (ciX8_clock).2.1, (ciX8_clock).2.2⟩ (wl3 (i := 79) rfl rfl) (wl3 (i := 80) rfl rfl) dL_clock_5 rfl rfl (by simp [cat_q, cat_i, cat_l, cat_r]) ⟨Nat.le_of_ble_eq_true rfl, Nat.le_of_ble_eq_true rfl⟩ ⟨Nat.le_of_ble_eq_true rfl, Nat.le_of_ble_eq_true rfl⟩ (fun _ => ?_)
  refine ag_i2l dL_clock_8 ?_
  refine ag_last (LW_out hD2) vin0 dL_clock_9 ?_
  rw [LW_set hD2]
  refine ag_goto 17 dL_clock_10 (by decide) ?_
  refine ag_iconst (0 : Int32) dL_clock_17 rfl ?_
  exact agw_ret dL_clock_18 rfl rfl (Nat.le_refl _) ⟨Nat.le_of_ble_eq_true rfl, Nat.le_of_ble_eq_true rfl⟩
set_option maxHeartbeats 4000000 in
set_option maxRecDepth 100000 in
theorem wtL_clock_1 {l : Launch} {g : xG} (hl : l.stackTraces = false) {mo : Nat} {S : MS} {o : Nat → Int64} {h h2 : TH} (t : Nat) (hk : t_kd h t = 7) (hD : LD mo h) (hD2 : LD mo h2) (a1 : Int32) (a2 : Int32) (hf : fX8_clock h t a1 a2 = some (.inr ("java/lang/IndexOutOfBoundsException", h2))) : WT yL_clock ML_clock hhL_clock rmL_clock l g [va_rf (some t), .int a1, .int a2, .ref (mo + 39)] (LW g mo h S o) 1 (LW g mo h2 S o) := by
  refine WT.of (lv0 := [(0, va_rf (some t)), (1, .int a1), (2, .int a2), (3, .ref (mo + 39))]) (by decide +kernel) rfl rfl (by simp [lg_sl, cat_q, cat_i, cat_l, cat_r]) (by simp [lv_args, cat_q, cat_i, cat_l, cat_r]) hl ?_
  have hx : (LW g mo h S o).2 t = some (.inr (6, thF h t (tgs 6))) := xU_l (thC_ob (ci := 6) hk (by decide))
  have hct : CT yX8_clock MX8_clock rmX8_clock l g [va_rf (some t), .int a1, .int a2] (LW g mo h S o) (.inr "java/lang/IndexOutOfBoundsException") (LW g mo h2 S o) := (ctX8_clock (g := g) hl h t a1 a2 hf).frame (LD.dj (S := S) (o := o) hD)
  refine ag_aload_n 3 dL_clock_0 rfl ?_
  refine ag_iconst (0 : Int32) dL_clock_1 rfl ?_
  refine ag_qload_n 0 dL_clock_2 rfl ?_
  refine ag_iload_n 1 dL_clock_3 rfl ?_
  refine ag_iload_n 2 dL_clock_4 rfl ?_
  refine agw_catch 6 (some t) [.int a1, .int a2] 2 [] ⟨0, 10, 13, 20⟩ [] rfl (fun z hz => by
    cases hz) (by decide) (by decide) (wl1 (i := 233) rfl rfl) (wm2 (i := 8) rfl) rfl hx rfl rfl hct ⟨wl3 (i := 78) rfl rfl, (ciX8_clock).1, (ciX8_clock).2.1, (ciX8_clock).2.2⟩ (wl3 (i := 79) rfl rfl) (wl3 (i := 80) rfl rfl) dL_clock_5 rfl rfl (by simp [cat_q, cat_i, cat_l, cat_r]) ⟨Nat.le_of_ble_eq_true rfl, Nat.le_of_ble_eq_true rfl⟩ ⟨Nat.le_of_ble_eq_true rfl, Nat.le_of_ble_eq_true rfl⟩ (fun z b hz _ => ?_)
  refine ag_qstore _ (r := some b) dL_clock_13 (by decide) rfl ?_
  refine ag_iconst (1 : Int32) dL_clock_15 rfl ?_
  exact agw_ret dL_clock_16 rfl rfl hz ⟨Nat.le_of_ble_eq_true rfl, Nat.le_of_ble_eq_true rfl⟩
abbrev ML_due : xM := ("AtariGardenLaw", cL_due, 4, some .int, "due")
abbrev rmL_due : Room := { frames := 8, cells := 1, slots := 6, locals := 141 }
abbrev hhL_due : List (Nat × Nat × Nat × Nat) := [(0, 9, 12, 20)]
theorem ciL_due : Cond.codeWith yL_due cL_due 4 (some .int) hhL_due ∈ wt ∧ Cond.initialized yL_due.cls ∈ wt ∧ (yL_due.cls ≠ "java/lang/invoke/MethodHandle" ∧ yL_due.cls ≠ "java/lang/invoke/VarHandle" ∧ (parseMethodDescriptor yL_due.desc).map (fun d => d.parameters.length) = some 3) := ⟨wl3 (i := 137) rfl rfl, wl1 (i := 0) rfl rfl, by decide +kernel, by decide +kernel, by decide +kernel⟩
set_option maxHeartbeats 4000000 in
set_option maxRecDepth 100000 in
theorem wtL_due_0 {l : Launch} {g : xG} (hl : l.stackTraces = false) {mo : Nat} {S : MS} {o : Nat → Int64} {h h2 : TH} (t : Nat) (hk : t_kd h t = 7) (hD : LD mo h) (hD2 : LD mo h2) (a1 : Int32) {v : Int32} (hf : fX8_due h t a1 = some (.inl (v, h2))) : WT yL_due ML_due hhL_due rmL_due l g [va_rf (some t), .int a1, .ref (mo + 39)] (LW g mo h S o) 0 (LW g mo h2 S (vp_updL o 0 v.toInt64)) := by
  refine WT.of (lv0 := [(0, va_rf (some t)), (1, .int a1), (2, .ref (mo + 39))]) (by decide +kernel) rfl rfl (by simp [lg_sl, cat_q, cat_i, cat_l, cat_r]) (by simp [lv_args, cat_q, cat_i, cat_l, cat_r]) hl ?_
  have hx : (LW g mo h S o).2 t = some (.inr (6, thF h t (tgs 6))) := xU_l (thC_ob (ci := 6) hk (by decide))
  have hct : CT yX8_due MX8_due rmX8_due l g [va_rf (some t), .int a1] (LW g mo h S o) (.inl (some (.int v))) (LW g mo h2 S o) := (ctX8_due (g := g) hl h t a1 hf).frame (LD.dj (S := S) (o := o) hD)
  refine ag_aload_n 2 dL_due_0 rfl ?_
  refine ag_iconst (0 : Int32) dL_due_1 rfl ?_
  refine ag_qload_n 0 dL_due_2 rfl ?_
  refine ag_iload_n 1 dL_due_3 rfl ?_
  refine ag_callV 6 (some t) [.int a1] 1 rfl hx rfl rfl hct ⟨wl3 (i := 138) rfl rfl, (ciX8_due).1, (ciX8_due).2.1, (ciX8_due).2.2⟩ (wl3 (i := 139) rfl rfl) (wl3 (i := 140) rfl rfl) dL_due_4 rfl rfl (by simp [cat_q, cat_i, cat_l, cat_r]) ⟨Nat.le_of_ble_eq_true rfl, Nat.le_of_ble_eq_true rfl⟩ ⟨Nat.le_of_ble_eq_true rfl, Nat.le_of_ble_eq_true rfl⟩ (fun _ => ?_)
  refine ag_i2l dL_due_7 ?_
  refine ag_last (LW_out hD2) vin0 dL_due_8 ?_
  rw [LW_set hD2]
  refine ag_goto 15 dL_due_9 (by decide) ?_
  refine ag_iconst (0 : Int32) dL_due_15 rfl ?_
  exact agw_ret dL_due_16 rfl rfl (Nat.le_refl _) ⟨Nat.le_of_ble_eq_true rfl, Nat.le_of_ble_eq_true rfl⟩
set_option maxHeartbeats 4000000 in
set_option maxRecDepth 100000 in
theorem wtL_due_1 {l : Launch} {g : xG} (hl : l.stackTraces = false) {mo : Nat} {S : MS} {o : Nat → Int64} {h h2 : TH} (t : Nat) (hk : t_kd h t = 7) (hD : LD mo h) (hD2 : LD mo h2) (a1 : Int32) (hf : fX8_due h t a1 = some (.inr ("java/lang/IndexOutOfBoundsException", h2))) : WT yL_due ML_due hhL_due rmL_due l g [va_rf (some t), .int a1, .ref (mo + 39)] (LW g mo h S o) 1 (LW g mo h2 S o) := by
  refine WT.of (lv0 := [(0, va_rf (some t)), (1, .int a1), (2, .ref (mo + 39))]) (by decide +kernel) rfl rfl (by simp [lg_sl, cat_q, cat_i, cat_l, cat_r]) (by simp [lv_args, cat_q, cat_i, cat_l, cat_r]) hl ?_
  have hx : (LW g mo h S o).2 t = some (.inr (6, thF h t (tgs 6))) := xU_l (thC_ob (ci := 6) hk (by decide))
  have hct : CT yX8_due MX8_due rmX8_due l g [va_rf (some t), .int a1] (LW g mo h S o) (.inr "java/lang/IndexOutOfBoundsException") (LW g mo h2 S o) := (ctX8_due (g := g) hl h t a1 hf).frame (LD.dj (S := S) (o := o) hD)
  refine ag_aload_n 2 dL_due_0 rfl ?_
  refine ag_iconst (0 : Int32) dL_due_1 rfl ?_
  refine ag_qload_n 0 dL_due_2 rfl ?_
  refine ag_iload_n 1 dL_due_3 rfl ?_
  refine agw_catch 6 (some t) [.int a1] 1 [] ⟨0, 9, 12, 20⟩ [] rfl (fun z hz => by
    cases hz) (by decide) (by decide) (wl1 (i := 233) rfl rfl) (wm2 (i := 8) rfl) rfl hx rfl rfl hct ⟨wl3 (i := 138) rfl rfl, (ciX8_due).1, (ciX8_due).2.1, (ciX8_due).2.2⟩ (wl3 (i := 139) rfl rfl) (wl3 (i := 140) rfl rfl) dL_due_4 rfl rfl (by simp [cat_q, cat_i, cat_l, cat_r]) ⟨Nat.le_of_ble_eq_true rfl, Nat.le_of_ble_eq_true rfl⟩ ⟨Nat.le_of_ble_eq_true rfl, Nat.le_of_ble_eq_true rfl⟩ (fun z b hz _ => ?_)
  refine ag_qstore_n _ (r := some b) dL_due_12 rfl (by decide) rfl ?_
  refine ag_iconst (1 : Int32) dL_due_13 rfl ?_
  exact agw_ret dL_due_14 rfl rfl hz ⟨Nat.le_of_ble_eq_true rfl, Nat.le_of_ble_eq_true rfl⟩
abbrev ML_flooded : xM := ("AtariGardenLaw", cL_flooded, 5, some .int, "flooded")
abbrev rmL_flooded : Room := { frames := 8, cells := 2, slots := 12, locals := 143 }
abbrev hhL_flooded : List (Nat × Nat × Nat × Nat) := [(0, 10, 13, 20)]
theorem ciL_flooded : Cond.codeWith yL_flooded cL_flooded 5 (some .int) hhL_flooded ∈ wt ∧ Cond.initialized yL_flooded.cls ∈ wt ∧ (yL_flooded.cls ≠ "java/lang/invoke/MethodHandle" ∧ yL_flooded.cls ≠ "java/lang/invoke/VarHandle" ∧ (parseMethodDescriptor yL_flooded.desc).map (fun d => d.parameters.length) = some 4) := ⟨wl3 (i := 109) rfl rfl, wl1 (i := 0) rfl rfl, by decide +kernel, by decide +kernel, by decide +kernel⟩
set_option maxHeartbeats 4000000 in
set_option maxRecDepth 100000 in
theorem wtL_flooded_0 {l : Launch} {g : xG} (hl : l.stackTraces = false) {mo : Nat} {S : MS} {o : Nat → Int64} {h h2 : TH} (t : Nat) (hk : t_kd h t = 7) (hD : LD mo h) (hD2 : LD mo h2) (a1 : Int32) (a2 : Int32) {v : Int32} (hf : fX8_flooded h t a1 a2 = some (.inl (v, h2))) : WT yL_flooded ML_flooded hhL_flooded rmL_flooded l g [va_rf (some t), .int a1, .int a2, .ref (mo + 39)] (LW g mo h S o) 0 (LW g mo h2 S (vp_updL o 0 v.toInt64)) := by
  refine WT.of (lv0 := [(0, va_rf (some t)), (1, .int a1), (2, .int a2), (3, .ref (mo + 39))]) (by decide +kernel) rfl rfl (by simp [lg_sl, cat_q, cat_i, cat_l, cat_r]) (by simp [lv_args, cat_q, cat_i, cat_l, cat_r]) hl ?_
  have hx : (LW g mo h S o).2 t = some (.inr (6, thF h t (tgs 6))) := xU_l (thC_ob (ci := 6) hk (by decide))
  have hct : CT yX8_flooded MX8_flooded rmX8_flooded l g [va_rf (some t), .int a1, .int a2] (LW g mo h S o) (.inl (some (.int v))) (LW g mo h2 S o) := (ctX8_flooded (g := g) hl h t a1 a2 hf).frame (LD.dj (S := S) (o := o) hD)
  refine ag_aload_n 3 dL_flooded_0 rfl ?_
  refine ag_iconst (0 : Int32) dL_flooded_1 rfl ?_
  refine ag_qload_n 0 dL_flooded_2 rfl ?_
  refine ag_iload_n 1 dL_flooded_3 rfl ?_
  refine ag_iload_n 2 dL_flooded_4 rfl ?_
  refine ag_callV 6 (some t) [.int a1, .int a2] 2 rfl hx rfl rfl hct ⟨wl3 (i := 110) rfl rfl, (ciX8_flooded).1, (ciX8_flooded).2.1, (ciX8_flooded).2.2⟩ (wl3 (i := 111) rfl rfl) (wl3 (i := 112) rfl rfl) dL_flooded_5 rfl rfl (by simp [cat_q, cat_i, cat_l, cat_r]) ⟨Nat.le_of_ble_eq_true rfl, Nat.le_of_ble_eq_true rfl⟩ ⟨Nat.le_of_ble_eq_true rfl, Nat.le_of_ble_eq_true rfl⟩ (fun _ => ?_)
  refine ag_i2l dL_flooded_8 ?_
  refine ag_last (LW_out hD2) vin0 dL_flooded_9 ?_
  rw [LW_set hD2]
  refine ag_goto 17 dL_flooded_10 (by decide) ?_
  refine ag_iconst (0 : Int32) dL_flooded_17 rfl ?_
  exact agw_ret dL_flooded_18 rfl rfl (Nat.le_refl _) ⟨Nat.le_of_ble_eq_true rfl, Nat.le_of_ble_eq_true rfl⟩
set_option maxHeartbeats 4000000 in
set_option maxRecDepth 100000 in
theorem wtL_flooded_1 {l : Launch} {g : xG} (hl : l.stackTraces = false) {mo : Nat} {S : MS} {o : Nat → Int64} {h h2 : TH} (t : Nat) (hk : t_kd h t = 7) (hD : LD mo h) (hD2 : LD mo h2) (a1 : Int32) (a2 : Int32) (hf : fX8_flooded h t a1 a2 = some (.inr ("java/lang/IndexOutOfBoundsException", h2))) : WT yL_flooded ML_flooded hhL_flooded rmL_flooded l g [va_rf (some t), .int a1, .int a2, .ref (mo + 39)] (LW g mo h S o) 1 (LW g mo h2 S o) := by
  refine WT.of (lv0 := [(0, va_rf (some t)), (1, .int a1), (2, .int a2), (3, .ref (mo + 39))]) (by decide +kernel) rfl rfl (by simp [lg_sl, cat_q, cat_i, cat_l, cat_r]) (by simp [lv_args, cat_q, cat_i, cat_l, cat_r]) hl ?_
  have hx : (LW g mo h S o).2 t = some (.inr (6, thF h t (tgs 6))) := xU_l (thC_ob (ci := 6) hk (by decide))
  have hct : CT yX8_flooded MX8_flooded rmX8_flooded l g [va_rf (some t), .int a1, .int a2] (LW g mo h S o) (.inr "java/lang/IndexOutOfBoundsException") (LW g mo h2 S o) := (ctX8_flooded (g := g) hl h t a1 a2 hf).frame (LD.dj (S := S) (o := o) hD)
  refine ag_aload_n 3 dL_flooded_0 rfl ?_
  refine ag_iconst (0 : Int32) dL_flooded_1 rfl ?_
  refine ag_qload_n 0 dL_flooded_2 rfl ?_
  refine ag_iload_n 1 dL_flooded_3 rfl ?_
  refine ag_iload_n 2 dL_flooded_4 rfl ?_
  refine agw_catch 6 (some t) [.int a1, .int a2] 2 [] ⟨0, 10, 13, 20⟩ [] rfl (fun z hz => by
    cases hz) (by decide) (by decide) (wl1 (i := 233) rfl rfl) (wm2 (i := 8) rfl) rfl hx rfl rfl hct ⟨wl3 (i := 110) rfl rfl, (ciX8_flooded).1, (ciX8_flooded).2.1, (ciX8_flooded).2.2⟩ (wl3 (i := 111) rfl rfl) (wl3 (i := 112) rfl rfl) dL_flooded_5 rfl rfl (by simp [cat_q, cat_i, cat_l, cat_r]) ⟨Nat.le_of_ble_eq_true rfl, Nat.le_of_ble_eq_true rfl⟩ ⟨Nat.le_of_ble_eq_true rfl, Nat.le_of_ble_eq_true rfl⟩ (fun z b hz _ => ?_)
  refine ag_qstore _ (r := some b) dL_flooded_13 (by decide) rfl ?_
  refine ag_iconst (1 : Int32) dL_flooded_15 rfl ?_
  exact agw_ret dL_flooded_16 rfl rfl hz ⟨Nat.le_of_ble_eq_true rfl, Nat.le_of_ble_eq_true rfl⟩
abbrev ML_game : xM := ("AtariGardenLaw", cL_game, 8, some .int, "game")
abbrev rmL_game : Room := { frames := 8, cells := 11, slots := 107, locals := 186 }
abbrev hhL_game : List (Nat × Nat × Nat × Nat) := [(0, 16, 19, 20), (0, 16, 23, 13), (0, 16, 27, 15)]
theorem ciL_game : Cond.codeWith yL_game cL_game 8 (some .int) hhL_game ∈ wt ∧ Cond.initialized yL_game.cls ∈ wt ∧ (yL_game.cls ≠ "java/lang/invoke/MethodHandle" ∧ yL_game.cls ≠ "java/lang/invoke/VarHandle" ∧ (parseMethodDescriptor yL_game.desc).map (fun d => d.parameters.length) = some 7) := ⟨wl2 (i := 25) rfl rfl, wl1 (i := 0) rfl rfl, by decide +kernel, by decide +kernel, by decide +kernel⟩
set_option maxHeartbeats 4000000 in
set_option maxRecDepth 100000 in
theorem wtL_game_0 {l : Launch} {g : xG} (hl : l.stackTraces = false) {mo : Nat} {S : MS} {o : Nat → Int64} {h h2 : TH} (t : Nat) (hk : t_kd h t = 7) (hD : LD mo h) (hD2 : LD mo h2) (a1 : Int32) (a2 : Int32) (a3 : Int32) (a4 : Int32) (a5 : Int32) {v : Int32} (hf : fX8_game h t a1 a2 a3 a4 a5 = some (.inl (v, h2))) : WT yL_game ML_game hhL_game rmL_game l g [va_rf (some t), .int a1, .int a2, .int a3, .int a4, .int a5, .ref (mo + 39)] (LW g mo h S o) 0 (LW g mo h2 S (vp_updL o 0 v.toInt64)) := by
  refine WT.of (lv0 := [(0, va_rf (some t)), (1, .int a1), (2, .int a2), (3, .int a3), (4, .int a4), (5, .int a5), (6, .ref (mo + 39))]) (by decide +kernel) rfl rfl (by simp [lg_sl, cat_q, cat_i, cat_l, cat_r]) (by simp [lv_args, cat_q, cat_i, cat_l, cat_r]) hl ?_
  have hx : (LW g mo h S o).2 t = some (.inr (6, thF h t (tgs 6))) := xU_l (thC_ob (ci := 6) hk (by decide))
  have hct : CT yX8_game MX8_game rmX8_game l g [va_rf (some t), .int a1, .int a2, .int a3, .int a4, .int a5] (LW g mo h S o) (.inl (some (.int v))) (LW g mo h2 S o) := (ctX8_game (g := g) hl h t a1 a2 a3 a4 a5 hf).frame (LD.dj (S := S) (o := o) hD)
  refine ag_aload 6 dL_game_0 rfl ?_
  refine ag_iconst (0 : Int32) dL_game_2 rfl ?_
  refine ag_qload_n 0 dL_game_3 rfl ?_
  refine ag_iload_n 1 dL_game_4 rfl ?_
  refine ag_iload_n 2 dL_game_5 rfl ?_
  refine ag_iload_n 3 dL_game_6 rfl ?_
  refine ag_iload 4 dL_game_7 rfl ?_
  refine ag_iload 5 dL_game_9 rfl ?_
  refine ag_callV 6 (some t) [.int a1, .int a2, .int a3, .int a4, .int a5] 5 rfl hx rfl rfl hct ⟨wl2 (i := 26) rfl rfl, (ciX8_game).1, (ciX8_game).2.1, (ciX8_game).2.2⟩ (wl2 (i := 27) rfl rfl) (wl2 (i := 28) rfl rfl) dL_game_11 rfl rfl (by simp [cat_q, cat_i, cat_l, cat_r]) ⟨Nat.le_of_ble_eq_true rfl, Nat.le_of_ble_eq_true rfl⟩ ⟨Nat.le_of_ble_eq_true rfl, Nat.le_of_ble_eq_true rfl⟩ (fun _ => ?_)
  refine ag_i2l dL_game_14 ?_
  refine ag_last (LW_out hD2) vin0 dL_game_15 ?_
  rw [LW_set hD2]
  refine ag_goto 31 dL_game_16 (by decide) ?_
  refine ag_iconst (0 : Int32) dL_game_31 rfl ?_
  exact agw_ret dL_game_32 rfl rfl (Nat.le_refl _) ⟨Nat.le_of_ble_eq_true rfl, Nat.le_of_ble_eq_true rfl⟩
set_option maxHeartbeats 4000000 in
set_option maxRecDepth 100000 in
theorem wtL_game_1 {l : Launch} {g : xG} (hl : l.stackTraces = false) {mo : Nat} {S : MS} {o : Nat → Int64} {h h2 : TH} (t : Nat) (hk : t_kd h t = 7) (hD : LD mo h) (hD2 : LD mo h2) (a1 : Int32) (a2 : Int32) (a3 : Int32) (a4 : Int32) (a5 : Int32) (hf : fX8_game h t a1 a2 a3 a4 a5 = some (.inr ("java/lang/IndexOutOfBoundsException", h2))) : WT yL_game ML_game hhL_game rmL_game l g [va_rf (some t), .int a1, .int a2, .int a3, .int a4, .int a5, .ref (mo + 39)] (LW g mo h S o) 1 (LW g mo h2 S o) := by
  refine WT.of (lv0 := [(0, va_rf (some t)), (1, .int a1), (2, .int a2), (3, .int a3), (4, .int a4), (5, .int a5), (6, .ref (mo + 39))]) (by decide +kernel) rfl rfl (by simp [lg_sl, cat_q, cat_i, cat_l, cat_r]) (by simp [lv_args, cat_q, cat_i, cat_l, cat_r]) hl ?_
  have hx : (LW g mo h S o).2 t = some (.inr (6, thF h t (tgs 6))) := xU_l (thC_ob (ci := 6) hk (by decide))
  have hct : CT yX8_game MX8_game rmX8_game l g [va_rf (some t), .int a1, .int a2, .int a3, .int a4, .int a5] (LW g mo h S o) (.inr "java/lang/IndexOutOfBoundsException") (LW g mo h2 S o) := (ctX8_game (g := g) hl h t a1 a2 a3 a4 a5 hf).frame (LD.dj (S := S) (o := o) hD)
  refine ag_aload 6 dL_game_0 rfl ?_
  refine ag_iconst (0 : Int32) dL_game_2 rfl ?_
  refine ag_qload_n 0 dL_game_3 rfl ?_
  refine ag_iload_n 1 dL_game_4 rfl ?_
  refine ag_iload_n 2 dL_game_5 rfl ?_
  refine ag_iload_n 3 dL_game_6 rfl ?_
  refine ag_iload 4 dL_game_7 rfl ?_
  refine ag_iload 5 dL_game_9 rfl ?_
  refine agw_catch 6 (some t) [.int a1, .int a2, .int a3, .int a4, .int a5] 5 [] ⟨0, 16, 19, 20⟩ [⟨0, 16, 23, 13⟩, ⟨0, 16, 27, 15⟩] rfl (fun z hz => by
    cases hz) (by decide) (by decide) (wl1 (i := 233) rfl rfl) (wm2 (i := 8) rfl) rfl hx rfl rfl hct ⟨wl2 (i := 26) rfl rfl, (ciX8_game).1, (ciX8_game).2.1, (ciX8_game).2.2⟩ (wl2 (i := 27) rfl rfl) (wl2 (i := 28) rfl rfl) dL_game_11 rfl rfl (by simp [cat_q, cat_i, cat_l, cat_r]) ⟨Nat.le_of_ble_eq_true rfl, Nat.le_of_ble_eq_true rfl⟩ ⟨Nat.le_of_ble_eq_true rfl, Nat.le_of_ble_eq_true rfl⟩ (fun z b hz _ => ?_)
  refine ag_qstore _ (r := some b) dL_game_19 (by decide) rfl ?_
  refine ag_iconst (1 : Int32) dL_game_21 rfl ?_
  exact agw_ret dL_game_22 rfl rfl hz ⟨Nat.le_of_ble_eq_true rfl, Nat.le_of_ble_eq_true rfl⟩
set_option maxHeartbeats 4000000 in
set_option maxRecDepth 100000 in
theorem wtL_game_2 {l : Launch} {g : xG} (hl : l.stackTraces = false) {mo : Nat} {S : MS} {o : Nat → Int64} {h h2 : TH} (t : Nat) (hk : t_kd h t = 7) (hD : LD mo h) (hD2 : LD mo h2) (a1 : Int32) (a2 : Int32) (a3 : Int32) (a4 : Int32) (a5 : Int32) (hf : fX8_game h t a1 a2 a3 a4 a5 = some (.inr ("java/lang/IllegalArgumentException", h2))) : WT yL_game ML_game hhL_game rmL_game l g [va_rf (some t), .int a1, .int a2, .int a3, .int a4, .int a5, .ref (mo + 39)] (LW g mo h S o) 2 (LW g mo h2 S o) := by
  refine WT.of (lv0 := [(0, va_rf (some t)), (1, .int a1), (2, .int a2), (3, .int a3), (4, .int a4), (5, .int a5), (6, .ref (mo + 39))]) (by decide +kernel) rfl rfl (by simp [lg_sl, cat_q, cat_i, cat_l, cat_r]) (by simp [lv_args, cat_q, cat_i, cat_l, cat_r]) hl ?_
  have hx : (LW g mo h S o).2 t = some (.inr (6, thF h t (tgs 6))) := xU_l (thC_ob (ci := 6) hk (by decide))
  have hct : CT yX8_game MX8_game rmX8_game l g [va_rf (some t), .int a1, .int a2, .int a3, .int a4, .int a5] (LW g mo h S o) (.inr "java/lang/IllegalArgumentException") (LW g mo h2 S o) := (ctX8_game (g := g) hl h t a1 a2 a3 a4 a5 hf).frame (LD.dj (S := S) (o := o) hD)
  refine ag_aload 6 dL_game_0 rfl ?_
  refine ag_iconst (0 : Int32) dL_game_2 rfl ?_
  refine ag_qload_n 0 dL_game_3 rfl ?_
  refine ag_iload_n 1 dL_game_4 rfl ?_
  refine ag_iload_n 2 dL_game_5 rfl ?_
  refine ag_iload_n 3 dL_game_6 rfl ?_
  refine ag_iload 4 dL_game_7 rfl ?_
  refine ag_iload 5 dL_game_9 rfl ?_
  refine agw_catch 6 (some t) [.int a1, .int a2, .int a3, .int a4, .int a5] 5 [⟨0, 16, 19, 20⟩] ⟨0, 16, 23, 13⟩ [⟨0, 16, 27, 15⟩] rfl (fun z hz => by
    simp only [List.mem_cons, List.not_mem_nil, or_false] at hz
    subst hz
    exact ⟨by decide, "java/lang/IndexOutOfBoundsException", wl1 (i := 233) rfl rfl, by decide⟩) (by decide) (by decide) (wl1 (i := 133) rfl rfl) (wm1 (i := 144) rfl) rfl hx rfl rfl hct ⟨wl2 (i := 26) rfl rfl, (ciX8_game).1, (ciX8_game).2.1, (ciX8_game).2.2⟩ (wl2 (i := 27) rfl rfl) (wl2 (i := 28) rfl rfl) dL_game_11 rfl rfl (by simp [cat_q, cat_i, cat_l, cat_r]) ⟨Nat.le_of_ble_eq_true rfl, Nat.le_of_ble_eq_true rfl⟩ ⟨Nat.le_of_ble_eq_true rfl, Nat.le_of_ble_eq_true rfl⟩ (fun z b hz _ => ?_)
  refine ag_qstore _ (r := some b) dL_game_23 (by decide) rfl ?_
  refine ag_iconst (2 : Int32) dL_game_25 rfl ?_
  exact agw_ret dL_game_26 rfl rfl hz ⟨Nat.le_of_ble_eq_true rfl, Nat.le_of_ble_eq_true rfl⟩
set_option maxHeartbeats 4000000 in
set_option maxRecDepth 100000 in
theorem wtL_game_3 {l : Launch} {g : xG} (hl : l.stackTraces = false) {mo : Nat} {S : MS} {o : Nat → Int64} {h h2 : TH} (t : Nat) (hk : t_kd h t = 7) (hD : LD mo h) (hD2 : LD mo h2) (a1 : Int32) (a2 : Int32) (a3 : Int32) (a4 : Int32) (a5 : Int32) (hf : fX8_game h t a1 a2 a3 a4 a5 = some (.inr ("java/lang/IllegalStateException", h2))) : WT yL_game ML_game hhL_game rmL_game l g [va_rf (some t), .int a1, .int a2, .int a3, .int a4, .int a5, .ref (mo + 39)] (LW g mo h S o) 3 (LW g mo h2 S o) := by
  refine WT.of (lv0 := [(0, va_rf (some t)), (1, .int a1), (2, .int a2), (3, .int a3), (4, .int a4), (5, .int a5), (6, .ref (mo + 39))]) (by decide +kernel) rfl rfl (by simp [lg_sl, cat_q, cat_i, cat_l, cat_r]) (by simp [lv_args, cat_q, cat_i, cat_l, cat_r]) hl ?_
  have hx : (LW g mo h S o).2 t = some (.inr (6, thF h t (tgs 6))) := xU_l (thC_ob (ci := 6) hk (by decide))
  have hct : CT yX8_game MX8_game rmX8_game l g [va_rf (some t), .int a1, .int a2, .int a3, .int a4, .int a5] (LW g mo h S o) (.inr "java/lang/IllegalStateException") (LW g mo h2 S o) := (ctX8_game (g := g) hl h t a1 a2 a3 a4 a5 hf).frame (LD.dj (S := S) (o := o) hD)
  refine ag_aload 6 dL_game_0 rfl ?_
  refine ag_iconst (0 : Int32) dL_game_2 rfl ?_
  refine ag_qload_n 0 dL_game_3 rfl ?_
  refine ag_iload_n 1 dL_game_4 rfl ?_
  refine ag_iload_n 2 dL_game_5 rfl ?_
  refine ag_iload_n 3 dL_game_6 rfl ?_
  refine ag_iload 4 dL_game_7 rfl ?_
  refine ag_iload 5 dL_game_9 rfl ?_
  refine agw_catch 6 (some t) [.int a1, .int a2, .int a3, .int a4, .int a5] 5 [⟨0, 16, 19, 20⟩, ⟨0, 16, 23, 13⟩] ⟨0, 16, 27, 15⟩ [] rfl (fun z hz => by
    simp only [List.mem_cons, List.not_mem_nil, or_false] at hz
    rcases hz with rfl | rfl
    · exact ⟨by decide, "java/lang/IndexOutOfBoundsException", wl1 (i := 233) rfl rfl, by decide⟩
    · exact ⟨by decide, "java/lang/IllegalArgumentException", wl1 (i := 133) rfl rfl, by decide⟩) (by decide) (by decide) (wl1 (i := 134) rfl rfl) (wm1 (i := 216) rfl) rfl hx rfl rfl hct ⟨wl2 (i := 26) rfl rfl, (ciX8_game).1, (ciX8_game).2.1, (ciX8_game).2.2⟩ (wl2 (i := 27) rfl rfl) (wl2 (i := 28) rfl rfl) dL_game_11 rfl rfl (by simp [cat_q, cat_i, cat_l, cat_r]) ⟨Nat.le_of_ble_eq_true rfl, Nat.le_of_ble_eq_true rfl⟩ ⟨Nat.le_of_ble_eq_true rfl, Nat.le_of_ble_eq_true rfl⟩ (fun z b hz _ => ?_)
  refine ag_qstore _ (r := some b) dL_game_27 (by decide) rfl ?_
  refine ag_iconst (3 : Int32) dL_game_29 rfl ?_
  exact agw_ret dL_game_30 rfl rfl hz ⟨Nat.le_of_ble_eq_true rfl, Nat.le_of_ble_eq_true rfl⟩
abbrev ML_handicap : xM := ("AtariGardenLaw", cL_handicap, 4, some .int, "handicap")
abbrev rmL_handicap : Room := { frames := 8, cells := 1, slots := 6, locals := 141 }
abbrev hhL_handicap : List (Nat × Nat × Nat × Nat) := [(0, 9, 12, 20)]
theorem ciL_handicap : Cond.codeWith yL_handicap cL_handicap 4 (some .int) hhL_handicap ∈ wt ∧ Cond.initialized yL_handicap.cls ∈ wt ∧ (yL_handicap.cls ≠ "java/lang/invoke/MethodHandle" ∧ yL_handicap.cls ≠ "java/lang/invoke/VarHandle" ∧ (parseMethodDescriptor yL_handicap.desc).map (fun d => d.parameters.length) = some 3) := ⟨wl3 (i := 59) rfl rfl, wl1 (i := 0) rfl rfl, by decide +kernel, by decide +kernel, by decide +kernel⟩
set_option maxHeartbeats 4000000 in
set_option maxRecDepth 100000 in
theorem wtL_handicap_0 {l : Launch} {g : xG} (hl : l.stackTraces = false) {mo : Nat} {S : MS} {o : Nat → Int64} {h h2 : TH} (t : Nat) (hk : t_kd h t = 7) (hD : LD mo h) (hD2 : LD mo h2) (a1 : Int32) {v : Int32} (hf : fX8_handicap h t a1 = some (.inl (v, h2))) : WT yL_handicap ML_handicap hhL_handicap rmL_handicap l g [va_rf (some t), .int a1, .ref (mo + 39)] (LW g mo h S o) 0 (LW g mo h2 S (vp_updL o 0 v.toInt64)) := by
  refine WT.of (lv0 := [(0, va_rf (some t)), (1, .int a1), (2, .ref (mo + 39))]) (by decide +kernel) rfl rfl (by simp [lg_sl, cat_q, cat_i, cat_l, cat_r]) (by simp [lv_args, cat_q, cat_i, cat_l, cat_r]) hl ?_
  have hx : (LW g mo h S o).2 t = some (.inr (6, thF h t (tgs 6))) := xU_l (thC_ob (ci := 6) hk (by decide))
  have hct : CT yX8_handicap MX8_handicap rmX8_handicap l g [va_rf (some t), .int a1] (LW g mo h S o) (.inl (some (.int v))) (LW g mo h2 S o) := (ctX8_handicap (g := g) hl h t a1 hf).frame (LD.dj (S := S) (o := o) hD)
  refine ag_aload_n 2 dL_handicap_0 rfl ?_
  refine ag_iconst (0 : Int32) dL_handicap_1 rfl ?_
  refine ag_qload_n 0 dL_handicap_2 rfl ?_
  refine ag_iload_n 1 dL_handicap_3 rfl ?_
  refine ag_callV 6 (some t) [.int a1] 1 rfl hx rfl rfl hct ⟨wl3 (i := 60) rfl rfl, (ciX8_handicap).1, (ciX8_handicap).2.1, (ciX8_handicap).2.2⟩ (wl3 (i := 61) rfl rfl) (wl3 (i := 62) rfl rfl) dL_handicap_4 rfl rfl (by simp [cat_q, cat_i, cat_l, cat_r]) ⟨Nat.le_of_ble_eq_true rfl, Nat.le_of_ble_eq_true rfl⟩ ⟨Nat.le_of_ble_eq_true rfl, Nat.le_of_ble_eq_true rfl⟩ (fun _ => ?_)
  refine ag_i2l dL_handicap_7 ?_
  refine ag_last (LW_out hD2) vin0 dL_handicap_8 ?_
  rw [LW_set hD2]
  refine ag_goto 15 dL_handicap_9 (by decide) ?_
  refine ag_iconst (0 : Int32) dL_handicap_15 rfl ?_
  exact agw_ret dL_handicap_16 rfl rfl (Nat.le_refl _) ⟨Nat.le_of_ble_eq_true rfl, Nat.le_of_ble_eq_true rfl⟩
set_option maxHeartbeats 4000000 in
set_option maxRecDepth 100000 in
theorem wtL_handicap_1 {l : Launch} {g : xG} (hl : l.stackTraces = false) {mo : Nat} {S : MS} {o : Nat → Int64} {h h2 : TH} (t : Nat) (hk : t_kd h t = 7) (hD : LD mo h) (hD2 : LD mo h2) (a1 : Int32) (hf : fX8_handicap h t a1 = some (.inr ("java/lang/IndexOutOfBoundsException", h2))) : WT yL_handicap ML_handicap hhL_handicap rmL_handicap l g [va_rf (some t), .int a1, .ref (mo + 39)] (LW g mo h S o) 1 (LW g mo h2 S o) := by
  refine WT.of (lv0 := [(0, va_rf (some t)), (1, .int a1), (2, .ref (mo + 39))]) (by decide +kernel) rfl rfl (by simp [lg_sl, cat_q, cat_i, cat_l, cat_r]) (by simp [lv_args, cat_q, cat_i, cat_l, cat_r]) hl ?_
  have hx : (LW g mo h S o).2 t = some (.inr (6, thF h t (tgs 6))) := xU_l (thC_ob (ci := 6) hk (by decide))
  have hct : CT yX8_handicap MX8_handicap rmX8_handicap l g [va_rf (some t), .int a1] (LW g mo h S o) (.inr "java/lang/IndexOutOfBoundsException") (LW g mo h2 S o) := (ctX8_handicap (g := g) hl h t a1 hf).frame (LD.dj (S := S) (o := o) hD)
  refine ag_aload_n 2 dL_handicap_0 rfl ?_
  refine ag_iconst (0 : Int32) dL_handicap_1 rfl ?_
  refine ag_qload_n 0 dL_handicap_2 rfl ?_
  refine ag_iload_n 1 dL_handicap_3 rfl ?_
  refine agw_catch 6 (some t) [.int a1] 1 [] ⟨0, 9, 12, 20⟩ [] rfl (fun z hz => by
    cases hz) (by decide) (by decide) (wl1 (i := 233) rfl rfl) (wm2 (i := 8) rfl) rfl hx rfl rfl hct ⟨wl3 (i := 60) rfl rfl, (ciX8_handicap).1, (ciX8_handicap).2.1, (ciX8_handicap).2.2⟩ (wl3 (i := 61) rfl rfl) (wl3 (i := 62) rfl rfl) dL_handicap_4 rfl rfl (by simp [cat_q, cat_i, cat_l, cat_r]) ⟨Nat.le_of_ble_eq_true rfl, Nat.le_of_ble_eq_true rfl⟩ ⟨Nat.le_of_ble_eq_true rfl, Nat.le_of_ble_eq_true rfl⟩ (fun z b hz _ => ?_)
  refine ag_qstore_n _ (r := some b) dL_handicap_12 rfl (by decide) rfl ?_
  refine ag_iconst (1 : Int32) dL_handicap_13 rfl ?_
  exact agw_ret dL_handicap_14 rfl rfl hz ⟨Nat.le_of_ble_eq_true rfl, Nat.le_of_ble_eq_true rfl⟩
abbrev ML_judge : xM := ("AtariGardenLaw", cL_judge, 4, some .int, "judge")
abbrev rmL_judge : Room := { frames := 8, cells := 2, slots := 12, locals := 170 }
abbrev hhL_judge : List (Nat × Nat × Nat × Nat) := [(0, 9, 12, 20), (0, 9, 15, 15)]
theorem ciL_judge : Cond.codeWith yL_judge cL_judge 4 (some .int) hhL_judge ∈ wt ∧ Cond.initialized yL_judge.cls ∈ wt ∧ (yL_judge.cls ≠ "java/lang/invoke/MethodHandle" ∧ yL_judge.cls ≠ "java/lang/invoke/VarHandle" ∧ (parseMethodDescriptor yL_judge.desc).map (fun d => d.parameters.length) = some 3) := ⟨wl3 (i := 124) rfl rfl, wl1 (i := 0) rfl rfl, by decide +kernel, by decide +kernel, by decide +kernel⟩
set_option maxHeartbeats 4000000 in
set_option maxRecDepth 100000 in
theorem wtL_judge_0 {l : Launch} {g : xG} (hl : l.stackTraces = false) {mo : Nat} {S : MS} {o : Nat → Int64} {h h2 : TH} (t : Nat) (hk : t_kd h t = 7) (hD : LD mo h) (hD2 : LD mo h2) (a1 : Int32) {v : Int32} (hf : fX8_judge h t a1 = some (.inl (v, h2))) : WT yL_judge ML_judge hhL_judge rmL_judge l g [va_rf (some t), .int a1, .ref (mo + 39)] (LW g mo h S o) 0 (LW g mo h2 S (vp_updL o 0 v.toInt64)) := by
  refine WT.of (lv0 := [(0, va_rf (some t)), (1, .int a1), (2, .ref (mo + 39))]) (by decide +kernel) rfl rfl (by simp [lg_sl, cat_q, cat_i, cat_l, cat_r]) (by simp [lv_args, cat_q, cat_i, cat_l, cat_r]) hl ?_
  have hx : (LW g mo h S o).2 t = some (.inr (6, thF h t (tgs 6))) := xU_l (thC_ob (ci := 6) hk (by decide))
  have hct : CT yX8_judge MX8_judge rmX8_judge l g [va_rf (some t), .int a1] (LW g mo h S o) (.inl (some (.int v))) (LW g mo h2 S o) := (ctX8_judge (g := g) hl h t a1 hf).frame (LD.dj (S := S) (o := o) hD)
  refine ag_aload_n 2 dL_judge_0 rfl ?_
  refine ag_iconst (0 : Int32) dL_judge_1 rfl ?_
  refine ag_qload_n 0 dL_judge_2 rfl ?_
  refine ag_iload_n 1 dL_judge_3 rfl ?_
  refine ag_callV 6 (some t) [.int a1] 1 rfl hx rfl rfl hct ⟨wl3 (i := 125) rfl rfl, (ciX8_judge).1, (ciX8_judge).2.1, (ciX8_judge).2.2⟩ (wl3 (i := 126) rfl rfl) (wl3 (i := 127) rfl rfl) dL_judge_4 rfl rfl (by simp [cat_q, cat_i, cat_l, cat_r]) ⟨Nat.le_of_ble_eq_true rfl, Nat.le_of_ble_eq_true rfl⟩ ⟨Nat.le_of_ble_eq_true rfl, Nat.le_of_ble_eq_true rfl⟩ (fun _ => ?_)
  refine ag_i2l dL_judge_7 ?_
  refine ag_last (LW_out hD2) vin0 dL_judge_8 ?_
  rw [LW_set hD2]
  refine ag_goto 18 dL_judge_9 (by decide) ?_
  refine ag_iconst (0 : Int32) dL_judge_18 rfl ?_
  exact agw_ret dL_judge_19 rfl rfl (Nat.le_refl _) ⟨Nat.le_of_ble_eq_true rfl, Nat.le_of_ble_eq_true rfl⟩
set_option maxHeartbeats 4000000 in
set_option maxRecDepth 100000 in
theorem wtL_judge_1 {l : Launch} {g : xG} (hl : l.stackTraces = false) {mo : Nat} {S : MS} {o : Nat → Int64} {h h2 : TH} (t : Nat) (hk : t_kd h t = 7) (hD : LD mo h) (hD2 : LD mo h2) (a1 : Int32) (hf : fX8_judge h t a1 = some (.inr ("java/lang/IndexOutOfBoundsException", h2))) : WT yL_judge ML_judge hhL_judge rmL_judge l g [va_rf (some t), .int a1, .ref (mo + 39)] (LW g mo h S o) 1 (LW g mo h2 S o) := by
  refine WT.of (lv0 := [(0, va_rf (some t)), (1, .int a1), (2, .ref (mo + 39))]) (by decide +kernel) rfl rfl (by simp [lg_sl, cat_q, cat_i, cat_l, cat_r]) (by simp [lv_args, cat_q, cat_i, cat_l, cat_r]) hl ?_
  have hx : (LW g mo h S o).2 t = some (.inr (6, thF h t (tgs 6))) := xU_l (thC_ob (ci := 6) hk (by decide))
  have hct : CT yX8_judge MX8_judge rmX8_judge l g [va_rf (some t), .int a1] (LW g mo h S o) (.inr "java/lang/IndexOutOfBoundsException") (LW g mo h2 S o) := (ctX8_judge (g := g) hl h t a1 hf).frame (LD.dj (S := S) (o := o) hD)
  refine ag_aload_n 2 dL_judge_0 rfl ?_
  refine ag_iconst (0 : Int32) dL_judge_1 rfl ?_
  refine ag_qload_n 0 dL_judge_2 rfl ?_
  refine ag_iload_n 1 dL_judge_3 rfl ?_
  refine agw_catch 6 (some t) [.int a1] 1 [] ⟨0, 9, 12, 20⟩ [⟨0, 9, 15, 15⟩] rfl (fun z hz => by
    cases hz) (by decide) (by decide) (wl1 (i := 233) rfl rfl) (wm2 (i := 8) rfl) rfl hx rfl rfl hct ⟨wl3 (i := 125) rfl rfl, (ciX8_judge).1, (ciX8_judge).2.1, (ciX8_judge).2.2⟩ (wl3 (i := 126) rfl rfl) (wl3 (i := 127) rfl rfl) dL_judge_4 rfl rfl (by simp [cat_q, cat_i, cat_l, cat_r]) ⟨Nat.le_of_ble_eq_true rfl, Nat.le_of_ble_eq_true rfl⟩ ⟨Nat.le_of_ble_eq_true rfl, Nat.le_of_ble_eq_true rfl⟩ (fun z b hz _ => ?_)
  refine ag_qstore_n _ (r := some b) dL_judge_12 rfl (by decide) rfl ?_
  refine ag_iconst (1 : Int32) dL_judge_13 rfl ?_
  exact agw_ret dL_judge_14 rfl rfl hz ⟨Nat.le_of_ble_eq_true rfl, Nat.le_of_ble_eq_true rfl⟩
set_option maxHeartbeats 4000000 in
set_option maxRecDepth 100000 in
theorem wtL_judge_2 {l : Launch} {g : xG} (hl : l.stackTraces = false) {mo : Nat} {S : MS} {o : Nat → Int64} {h h2 : TH} (t : Nat) (hk : t_kd h t = 7) (hD : LD mo h) (hD2 : LD mo h2) (a1 : Int32) (hf : fX8_judge h t a1 = some (.inr ("java/lang/IllegalStateException", h2))) : WT yL_judge ML_judge hhL_judge rmL_judge l g [va_rf (some t), .int a1, .ref (mo + 39)] (LW g mo h S o) 2 (LW g mo h2 S o) := by
  refine WT.of (lv0 := [(0, va_rf (some t)), (1, .int a1), (2, .ref (mo + 39))]) (by decide +kernel) rfl rfl (by simp [lg_sl, cat_q, cat_i, cat_l, cat_r]) (by simp [lv_args, cat_q, cat_i, cat_l, cat_r]) hl ?_
  have hx : (LW g mo h S o).2 t = some (.inr (6, thF h t (tgs 6))) := xU_l (thC_ob (ci := 6) hk (by decide))
  have hct : CT yX8_judge MX8_judge rmX8_judge l g [va_rf (some t), .int a1] (LW g mo h S o) (.inr "java/lang/IllegalStateException") (LW g mo h2 S o) := (ctX8_judge (g := g) hl h t a1 hf).frame (LD.dj (S := S) (o := o) hD)
  refine ag_aload_n 2 dL_judge_0 rfl ?_
  refine ag_iconst (0 : Int32) dL_judge_1 rfl ?_
  refine ag_qload_n 0 dL_judge_2 rfl ?_
  refine ag_iload_n 1 dL_judge_3 rfl ?_
  refine agw_catch 6 (some t) [.int a1] 1 [⟨0, 9, 12, 20⟩] ⟨0, 9, 15, 15⟩ [] rfl (fun z hz => by
    simp only [List.mem_cons, List.not_mem_nil, or_false] at hz
    subst hz
    exact ⟨by decide, "java/lang/IndexOutOfBoundsException", wl1 (i := 233) rfl rfl, by decide⟩) (by decide) (by decide) (wl1 (i := 134) rfl rfl) (wm1 (i := 216) rfl) rfl hx rfl rfl hct ⟨wl3 (i := 125) rfl rfl, (ciX8_judge).1, (ciX8_judge).2.1, (ciX8_judge).2.2⟩ (wl3 (i := 126) rfl rfl) (wl3 (i := 127) rfl rfl) dL_judge_4 rfl rfl (by simp [cat_q, cat_i, cat_l, cat_r]) ⟨Nat.le_of_ble_eq_true rfl, Nat.le_of_ble_eq_true rfl⟩ ⟨Nat.le_of_ble_eq_true rfl, Nat.le_of_ble_eq_true rfl⟩ (fun z b hz _ => ?_)
  refine ag_qstore_n _ (r := some b) dL_judge_15 rfl (by decide) rfl ?_
  refine ag_iconst (2 : Int32) dL_judge_16 rfl ?_
  exact agw_ret dL_judge_17 rfl rfl hz ⟨Nat.le_of_ble_eq_true rfl, Nat.le_of_ble_eq_true rfl⟩
abbrev ML_ladder : xM := ("AtariGardenLaw", cL_ladder, 6, some .int, "ladder")
abbrev rmL_ladder : Room := { frames := 40, cells := 3, slots := 18, locals := 2394 }
abbrev hhL_ladder : List (Nat × Nat × Nat × Nat) := [(0, 19, 22, 20), (0, 19, 26, 13)]
theorem ciL_ladder : Cond.codeWith yL_ladder cL_ladder 6 (some .int) hhL_ladder ∈ wt ∧ Cond.initialized yL_ladder.cls ∈ wt ∧ (yL_ladder.cls ≠ "java/lang/invoke/MethodHandle" ∧ yL_ladder.cls ≠ "java/lang/invoke/VarHandle" ∧ (parseMethodDescriptor yL_ladder.desc).map (fun d => d.parameters.length) = some 5) := ⟨wl3 (i := 145) rfl rfl, wl1 (i := 0) rfl rfl, by decide +kernel, by decide +kernel, by decide +kernel⟩
set_option maxHeartbeats 4000000 in
set_option maxRecDepth 100000 in
theorem wtL_ladder_0 {l : Launch} {g : xG} (hl : l.stackTraces = false) {mo : Nat} {S : MS} {o : Nat → Int64} {h h2 : TH} (t : Nat) (hk : t_kd h t = 7) (hD : LD mo h) (hD2 : LD mo h2) (a1 : Int32) (a2 : Int32) (a3 : Int32) {v : Bool} (hf : fX8_ladder h t a1 a2 a3 = some (.inl (v, h2))) : WT yL_ladder ML_ladder hhL_ladder rmL_ladder l g [va_rf (some t), .int a1, .int a2, .int a3, .ref (mo + 39)] (LW g mo h S o) 0 (LW g mo h2 S (vp_updL o 0 (if v = true then (1 : Int64) else 0))) := by
  refine WT.of (lv0 := [(0, va_rf (some t)), (1, .int a1), (2, .int a2), (3, .int a3), (4, .ref (mo + 39))]) (by decide +kernel) rfl rfl (by simp [lg_sl, cat_q, cat_i, cat_l, cat_r]) (by simp [lv_args, cat_q, cat_i, cat_l, cat_r]) hl ?_
  have hx : (LW g mo h S o).2 t = some (.inr (6, thF h t (tgs 6))) := xU_l (thC_ob (ci := 6) hk (by decide))
  have hct : CT yX8_ladder MX8_ladder rmX8_ladder l g [va_rf (some t), .int a1, .int a2, .int a3] (LW g mo h S o) (.inl (some (.int (bi v)))) (LW g mo h2 S o) := (ctX8_ladder (g := g) hl h t a1 a2 a3 hf).frame (LD.dj (S := S) (o := o) hD)
  refine ag_aload 4 dL_ladder_0 rfl ?_
  refine ag_iconst (0 : Int32) dL_ladder_2 rfl ?_
  refine ag_qload_n 0 dL_ladder_3 rfl ?_
  refine ag_iload_n 1 dL_ladder_4 rfl ?_
  refine ag_iload_n 2 dL_ladder_5 rfl ?_
  refine ag_iload_n 3 dL_ladder_6 rfl ?_
  refine ag_callV 6 (some t) [.int a1, .int a2, .int a3] 3 rfl hx rfl rfl hct ⟨wl3 (i := 146) rfl rfl, (ciX8_ladder).1, (ciX8_ladder).2.1, (ciX8_ladder).2.2⟩ (wl3 (i := 147) rfl rfl) (wl3 (i := 148) rfl rfl) dL_ladder_7 rfl rfl (by simp [cat_q, cat_i, cat_l, cat_r]) ⟨Nat.le_of_ble_eq_true rfl, Nat.le_of_ble_eq_true rfl⟩ ⟨Nat.le_of_ble_eq_true rfl, Nat.le_of_ble_eq_true rfl⟩ (fun _ => ?_)
  cases v
  · refine ag_ifb_eq 17 dL_ladder_10 (by decide) (fun _ => ?_) (fun c => absurd rfl c)
    refine ag_lconst (0 : Int64) dL_ladder_17 rfl ?_
    refine ag_last (LW_out hD2) vin0 dL_ladder_18 ?_
    rw [LW_set hD2]
    refine ag_goto 30 dL_ladder_19 (by decide) ?_
    refine ag_iconst (0 : Int32) dL_ladder_30 rfl ?_
    exact agw_ret dL_ladder_31 rfl rfl (Nat.le_refl _) ⟨Nat.le_of_ble_eq_true rfl, Nat.le_of_ble_eq_true rfl⟩
  · refine ag_ifb_eq 17 dL_ladder_10 (by decide) (fun c => by cases c) (fun _ => ?_)
    refine ag_lconst (1 : Int64) dL_ladder_13 rfl ?_
    refine ag_goto 18 dL_ladder_14 (by decide) ?_
    refine ag_last (LW_out hD2) vin0 dL_ladder_18 ?_
    rw [LW_set hD2]
    refine ag_goto 30 dL_ladder_19 (by decide) ?_
    refine ag_iconst (0 : Int32) dL_ladder_30 rfl ?_
    exact agw_ret dL_ladder_31 rfl rfl (Nat.le_refl _) ⟨Nat.le_of_ble_eq_true rfl, Nat.le_of_ble_eq_true rfl⟩
set_option maxHeartbeats 4000000 in
set_option maxRecDepth 100000 in
theorem wtL_ladder_1 {l : Launch} {g : xG} (hl : l.stackTraces = false) {mo : Nat} {S : MS} {o : Nat → Int64} {h h2 : TH} (t : Nat) (hk : t_kd h t = 7) (hD : LD mo h) (hD2 : LD mo h2) (a1 : Int32) (a2 : Int32) (a3 : Int32) (hf : fX8_ladder h t a1 a2 a3 = some (.inr ("java/lang/IndexOutOfBoundsException", h2))) : WT yL_ladder ML_ladder hhL_ladder rmL_ladder l g [va_rf (some t), .int a1, .int a2, .int a3, .ref (mo + 39)] (LW g mo h S o) 1 (LW g mo h2 S o) := by
  refine WT.of (lv0 := [(0, va_rf (some t)), (1, .int a1), (2, .int a2), (3, .int a3), (4, .ref (mo + 39))]) (by decide +kernel) rfl rfl (by simp [lg_sl, cat_q, cat_i, cat_l, cat_r]) (by simp [lv_args, cat_q, cat_i, cat_l, cat_r]) hl ?_
  have hx : (LW g mo h S o).2 t = some (.inr (6, thF h t (tgs 6))) := xU_l (thC_ob (ci := 6) hk (by decide))
  have hct : CT yX8_ladder MX8_ladder rmX8_ladder l g [va_rf (some t), .int a1, .int a2, .int a3] (LW g mo h S o) (.inr "java/lang/IndexOutOfBoundsException") (LW g mo h2 S o) := (ctX8_ladder (g := g) hl h t a1 a2 a3 hf).frame (LD.dj (S := S) (o := o) hD)
  refine ag_aload 4 dL_ladder_0 rfl ?_
  refine ag_iconst (0 : Int32) dL_ladder_2 rfl ?_
  refine ag_qload_n 0 dL_ladder_3 rfl ?_
  refine ag_iload_n 1 dL_ladder_4 rfl ?_
  refine ag_iload_n 2 dL_ladder_5 rfl ?_
  refine ag_iload_n 3 dL_ladder_6 rfl ?_
  refine agw_catch 6 (some t) [.int a1, .int a2, .int a3] 3 [] ⟨0, 19, 22, 20⟩ [⟨0, 19, 26, 13⟩] rfl (fun z hz => by
    cases hz) (by decide) (by decide) (wl1 (i := 233) rfl rfl) (wm2 (i := 8) rfl) rfl hx rfl rfl hct ⟨wl3 (i := 146) rfl rfl, (ciX8_ladder).1, (ciX8_ladder).2.1, (ciX8_ladder).2.2⟩ (wl3 (i := 147) rfl rfl) (wl3 (i := 148) rfl rfl) dL_ladder_7 rfl rfl (by simp [cat_q, cat_i, cat_l, cat_r]) ⟨Nat.le_of_ble_eq_true rfl, Nat.le_of_ble_eq_true rfl⟩ ⟨Nat.le_of_ble_eq_true rfl, Nat.le_of_ble_eq_true rfl⟩ (fun z b hz _ => ?_)
  refine ag_qstore _ (r := some b) dL_ladder_22 (by decide) rfl ?_
  refine ag_iconst (1 : Int32) dL_ladder_24 rfl ?_
  exact agw_ret dL_ladder_25 rfl rfl hz ⟨Nat.le_of_ble_eq_true rfl, Nat.le_of_ble_eq_true rfl⟩
set_option maxHeartbeats 4000000 in
set_option maxRecDepth 100000 in
theorem wtL_ladder_2 {l : Launch} {g : xG} (hl : l.stackTraces = false) {mo : Nat} {S : MS} {o : Nat → Int64} {h h2 : TH} (t : Nat) (hk : t_kd h t = 7) (hD : LD mo h) (hD2 : LD mo h2) (a1 : Int32) (a2 : Int32) (a3 : Int32) (hf : fX8_ladder h t a1 a2 a3 = some (.inr ("java/lang/IllegalArgumentException", h2))) : WT yL_ladder ML_ladder hhL_ladder rmL_ladder l g [va_rf (some t), .int a1, .int a2, .int a3, .ref (mo + 39)] (LW g mo h S o) 2 (LW g mo h2 S o) := by
  refine WT.of (lv0 := [(0, va_rf (some t)), (1, .int a1), (2, .int a2), (3, .int a3), (4, .ref (mo + 39))]) (by decide +kernel) rfl rfl (by simp [lg_sl, cat_q, cat_i, cat_l, cat_r]) (by simp [lv_args, cat_q, cat_i, cat_l, cat_r]) hl ?_
  have hx : (LW g mo h S o).2 t = some (.inr (6, thF h t (tgs 6))) := xU_l (thC_ob (ci := 6) hk (by decide))
  have hct : CT yX8_ladder MX8_ladder rmX8_ladder l g [va_rf (some t), .int a1, .int a2, .int a3] (LW g mo h S o) (.inr "java/lang/IllegalArgumentException") (LW g mo h2 S o) := (ctX8_ladder (g := g) hl h t a1 a2 a3 hf).frame (LD.dj (S := S) (o := o) hD)
  refine ag_aload 4 dL_ladder_0 rfl ?_
  refine ag_iconst (0 : Int32) dL_ladder_2 rfl ?_
  refine ag_qload_n 0 dL_ladder_3 rfl ?_
  refine ag_iload_n 1 dL_ladder_4 rfl ?_
  refine ag_iload_n 2 dL_ladder_5 rfl ?_
  refine ag_iload_n 3 dL_ladder_6 rfl ?_
  refine agw_catch 6 (some t) [.int a1, .int a2, .int a3] 3 [⟨0, 19, 22, 20⟩] ⟨0, 19, 26, 13⟩ [] rfl (fun z hz => by
    simp only [List.mem_cons, List.not_mem_nil, or_false] at hz
    subst hz
    exact ⟨by decide, "java/lang/IndexOutOfBoundsException", wl1 (i := 233) rfl rfl, by decide⟩) (by decide) (by decide) (wl1 (i := 133) rfl rfl) (wm1 (i := 144) rfl) rfl hx rfl rfl hct ⟨wl3 (i := 146) rfl rfl, (ciX8_ladder).1, (ciX8_ladder).2.1, (ciX8_ladder).2.2⟩ (wl3 (i := 147) rfl rfl) (wl3 (i := 148) rfl rfl) dL_ladder_7 rfl rfl (by simp [cat_q, cat_i, cat_l, cat_r]) ⟨Nat.le_of_ble_eq_true rfl, Nat.le_of_ble_eq_true rfl⟩ ⟨Nat.le_of_ble_eq_true rfl, Nat.le_of_ble_eq_true rfl⟩ (fun z b hz _ => ?_)
  refine ag_qstore _ (r := some b) dL_ladder_26 (by decide) rfl ?_
  refine ag_iconst (2 : Int32) dL_ladder_28 rfl ?_
  exact agw_ret dL_ladder_29 rfl rfl hz ⟨Nat.le_of_ble_eq_true rfl, Nat.le_of_ble_eq_true rfl⟩
abbrev ML_lesson : xM := ("AtariGardenLaw", cL_lesson, 5, some .int, "lesson")
abbrev rmL_lesson : Room := { frames := 8, cells := 5, slots := 30, locals := 145 }
abbrev hhL_lesson : List (Nat × Nat × Nat × Nat) := [(0, 10, 13, 20), (0, 10, 17, 13), (0, 10, 21, 15)]
theorem ciL_lesson : Cond.codeWith yL_lesson cL_lesson 5 (some .int) hhL_lesson ∈ wt ∧ Cond.initialized yL_lesson.cls ∈ wt ∧ (yL_lesson.cls ≠ "java/lang/invoke/MethodHandle" ∧ yL_lesson.cls ≠ "java/lang/invoke/VarHandle" ∧ (parseMethodDescriptor yL_lesson.desc).map (fun d => d.parameters.length) = some 4) := ⟨wl3 (i := 182) rfl rfl, wl1 (i := 0) rfl rfl, by decide +kernel, by decide +kernel, by decide +kernel⟩
set_option maxHeartbeats 4000000 in
set_option maxRecDepth 100000 in
theorem wtL_lesson_0 {l : Launch} {g : xG} (hl : l.stackTraces = false) {mo : Nat} {S : MS} {o : Nat → Int64} {h h2 : TH} (t : Nat) (hk : t_kd h t = 7) (hD : LD mo h) (hD2 : LD mo h2) (a1 : Int32) (a2 : Int32) {v : Int32} (hf : fX8_lesson h t a1 a2 = some (.inl (v, h2))) : WT yL_lesson ML_lesson hhL_lesson rmL_lesson l g [va_rf (some t), .int a1, .int a2, .ref (mo + 39)] (LW g mo h S o) 0 (LW g mo h2 S (vp_updL o 0 v.toInt64)) := by
  refine WT.of (lv0 := [(0, va_rf (some t)), (1, .int a1), (2, .int a2), (3, .ref (mo + 39))]) (by decide +kernel) rfl rfl (by simp [lg_sl, cat_q, cat_i, cat_l, cat_r]) (by simp [lv_args, cat_q, cat_i, cat_l, cat_r]) hl ?_
  have hx : (LW g mo h S o).2 t = some (.inr (6, thF h t (tgs 6))) := xU_l (thC_ob (ci := 6) hk (by decide))
  have hct : CT yX8_lesson MX8_lesson rmX8_lesson l g [va_rf (some t), .int a1, .int a2] (LW g mo h S o) (.inl (some (.int v))) (LW g mo h2 S o) := (ctX8_lesson (g := g) hl h t a1 a2 hf).frame (LD.dj (S := S) (o := o) hD)
  refine ag_aload_n 3 dL_lesson_0 rfl ?_
  refine ag_iconst (0 : Int32) dL_lesson_1 rfl ?_
  refine ag_qload_n 0 dL_lesson_2 rfl ?_
  refine ag_iload_n 1 dL_lesson_3 rfl ?_
  refine ag_iload_n 2 dL_lesson_4 rfl ?_
  refine ag_callV 6 (some t) [.int a1, .int a2] 2 rfl hx rfl rfl hct ⟨wl3 (i := 183) rfl rfl, (ciX8_lesson).1, (ciX8_lesson).2.1, (ciX8_lesson).2.2⟩ (wl3 (i := 184) rfl rfl) (wl3 (i := 185) rfl rfl) dL_lesson_5 rfl rfl (by simp [cat_q, cat_i, cat_l, cat_r]) ⟨Nat.le_of_ble_eq_true rfl, Nat.le_of_ble_eq_true rfl⟩ ⟨Nat.le_of_ble_eq_true rfl, Nat.le_of_ble_eq_true rfl⟩ (fun _ => ?_)
  refine ag_i2l dL_lesson_8 ?_
  refine ag_last (LW_out hD2) vin0 dL_lesson_9 ?_
  rw [LW_set hD2]
  refine ag_goto 25 dL_lesson_10 (by decide) ?_
  refine ag_iconst (0 : Int32) dL_lesson_25 rfl ?_
  exact agw_ret dL_lesson_26 rfl rfl (Nat.le_refl _) ⟨Nat.le_of_ble_eq_true rfl, Nat.le_of_ble_eq_true rfl⟩
set_option maxHeartbeats 4000000 in
set_option maxRecDepth 100000 in
theorem wtL_lesson_1 {l : Launch} {g : xG} (hl : l.stackTraces = false) {mo : Nat} {S : MS} {o : Nat → Int64} {h h2 : TH} (t : Nat) (hk : t_kd h t = 7) (hD : LD mo h) (hD2 : LD mo h2) (a1 : Int32) (a2 : Int32) (hf : fX8_lesson h t a1 a2 = some (.inr ("java/lang/IndexOutOfBoundsException", h2))) : WT yL_lesson ML_lesson hhL_lesson rmL_lesson l g [va_rf (some t), .int a1, .int a2, .ref (mo + 39)] (LW g mo h S o) 1 (LW g mo h2 S o) := by
  refine WT.of (lv0 := [(0, va_rf (some t)), (1, .int a1), (2, .int a2), (3, .ref (mo + 39))]) (by decide +kernel) rfl rfl (by simp [lg_sl, cat_q, cat_i, cat_l, cat_r]) (by simp [lv_args, cat_q, cat_i, cat_l, cat_r]) hl ?_
  have hx : (LW g mo h S o).2 t = some (.inr (6, thF h t (tgs 6))) := xU_l (thC_ob (ci := 6) hk (by decide))
  have hct : CT yX8_lesson MX8_lesson rmX8_lesson l g [va_rf (some t), .int a1, .int a2] (LW g mo h S o) (.inr "java/lang/IndexOutOfBoundsException") (LW g mo h2 S o) := (ctX8_lesson (g := g) hl h t a1 a2 hf).frame (LD.dj (S := S) (o := o) hD)
  refine ag_aload_n 3 dL_lesson_0 rfl ?_
  refine ag_iconst (0 : Int32) dL_lesson_1 rfl ?_
  refine ag_qload_n 0 dL_lesson_2 rfl ?_
  refine ag_iload_n 1 dL_lesson_3 rfl ?_
  refine ag_iload_n 2 dL_lesson_4 rfl ?_
  refine agw_catch 6 (some t) [.int a1, .int a2] 2 [] ⟨0, 10, 13, 20⟩ [⟨0, 10, 17, 13⟩, ⟨0, 10, 21, 15⟩] rfl (fun z hz => by
    cases hz) (by decide) (by decide) (wl1 (i := 233) rfl rfl) (wm2 (i := 8) rfl) rfl hx rfl rfl hct ⟨wl3 (i := 183) rfl rfl, (ciX8_lesson).1, (ciX8_lesson).2.1, (ciX8_lesson).2.2⟩ (wl3 (i := 184) rfl rfl) (wl3 (i := 185) rfl rfl) dL_lesson_5 rfl rfl (by simp [cat_q, cat_i, cat_l, cat_r]) ⟨Nat.le_of_ble_eq_true rfl, Nat.le_of_ble_eq_true rfl⟩ ⟨Nat.le_of_ble_eq_true rfl, Nat.le_of_ble_eq_true rfl⟩ (fun z b hz _ => ?_)
  refine ag_qstore _ (r := some b) dL_lesson_13 (by decide) rfl ?_
  refine ag_iconst (1 : Int32) dL_lesson_15 rfl ?_
  exact agw_ret dL_lesson_16 rfl rfl hz ⟨Nat.le_of_ble_eq_true rfl, Nat.le_of_ble_eq_true rfl⟩
set_option maxHeartbeats 4000000 in
set_option maxRecDepth 100000 in
theorem wtL_lesson_2 {l : Launch} {g : xG} (hl : l.stackTraces = false) {mo : Nat} {S : MS} {o : Nat → Int64} {h h2 : TH} (t : Nat) (hk : t_kd h t = 7) (hD : LD mo h) (hD2 : LD mo h2) (a1 : Int32) (a2 : Int32) (hf : fX8_lesson h t a1 a2 = some (.inr ("java/lang/IllegalArgumentException", h2))) : WT yL_lesson ML_lesson hhL_lesson rmL_lesson l g [va_rf (some t), .int a1, .int a2, .ref (mo + 39)] (LW g mo h S o) 2 (LW g mo h2 S o) := by
  refine WT.of (lv0 := [(0, va_rf (some t)), (1, .int a1), (2, .int a2), (3, .ref (mo + 39))]) (by decide +kernel) rfl rfl (by simp [lg_sl, cat_q, cat_i, cat_l, cat_r]) (by simp [lv_args, cat_q, cat_i, cat_l, cat_r]) hl ?_
  have hx : (LW g mo h S o).2 t = some (.inr (6, thF h t (tgs 6))) := xU_l (thC_ob (ci := 6) hk (by decide))
  have hct : CT yX8_lesson MX8_lesson rmX8_lesson l g [va_rf (some t), .int a1, .int a2] (LW g mo h S o) (.inr "java/lang/IllegalArgumentException") (LW g mo h2 S o) := (ctX8_lesson (g := g) hl h t a1 a2 hf).frame (LD.dj (S := S) (o := o) hD)
  refine ag_aload_n 3 dL_lesson_0 rfl ?_
  refine ag_iconst (0 : Int32) dL_lesson_1 rfl ?_
  refine ag_qload_n 0 dL_lesson_2 rfl ?_
  refine ag_iload_n 1 dL_lesson_3 rfl ?_
  refine ag_iload_n 2 dL_lesson_4 rfl ?_
  refine agw_catch 6 (some t) [.int a1, .int a2] 2 [⟨0, 10, 13, 20⟩] ⟨0, 10, 17, 13⟩ [⟨0, 10, 21, 15⟩] rfl (fun z hz => by
    simp only [List.mem_cons, List.not_mem_nil, or_false] at hz
    subst hz
    exact ⟨by decide, "java/lang/IndexOutOfBoundsException", wl1 (i := 233) rfl rfl, by decide⟩) (by decide) (by decide) (wl1 (i := 133) rfl rfl) (wm1 (i := 144) rfl) rfl hx rfl rfl hct ⟨wl3 (i := 183) rfl rfl, (ciX8_lesson).1, (ciX8_lesson).2.1, (ciX8_lesson).2.2⟩ (wl3 (i := 184) rfl rfl) (wl3 (i := 185) rfl rfl) dL_lesson_5 rfl rfl (by simp [cat_q, cat_i, cat_l, cat_r]) ⟨Nat.le_of_ble_eq_true rfl, Nat.le_of_ble_eq_true rfl⟩ ⟨Nat.le_of_ble_eq_true rfl, Nat.le_of_ble_eq_true rfl⟩ (fun z b hz _ => ?_)
  refine ag_qstore _ (r := some b) dL_lesson_17 (by decide) rfl ?_
  refine ag_iconst (2 : Int32) dL_lesson_19 rfl ?_
  exact agw_ret dL_lesson_20 rfl rfl hz ⟨Nat.le_of_ble_eq_true rfl, Nat.le_of_ble_eq_true rfl⟩
set_option maxHeartbeats 4000000 in
set_option maxRecDepth 100000 in
theorem wtL_lesson_3 {l : Launch} {g : xG} (hl : l.stackTraces = false) {mo : Nat} {S : MS} {o : Nat → Int64} {h h2 : TH} (t : Nat) (hk : t_kd h t = 7) (hD : LD mo h) (hD2 : LD mo h2) (a1 : Int32) (a2 : Int32) (hf : fX8_lesson h t a1 a2 = some (.inr ("java/lang/IllegalStateException", h2))) : WT yL_lesson ML_lesson hhL_lesson rmL_lesson l g [va_rf (some t), .int a1, .int a2, .ref (mo + 39)] (LW g mo h S o) 3 (LW g mo h2 S o) := by
  refine WT.of (lv0 := [(0, va_rf (some t)), (1, .int a1), (2, .int a2), (3, .ref (mo + 39))]) (by decide +kernel) rfl rfl (by simp [lg_sl, cat_q, cat_i, cat_l, cat_r]) (by simp [lv_args, cat_q, cat_i, cat_l, cat_r]) hl ?_
  have hx : (LW g mo h S o).2 t = some (.inr (6, thF h t (tgs 6))) := xU_l (thC_ob (ci := 6) hk (by decide))
  have hct : CT yX8_lesson MX8_lesson rmX8_lesson l g [va_rf (some t), .int a1, .int a2] (LW g mo h S o) (.inr "java/lang/IllegalStateException") (LW g mo h2 S o) := (ctX8_lesson (g := g) hl h t a1 a2 hf).frame (LD.dj (S := S) (o := o) hD)
  refine ag_aload_n 3 dL_lesson_0 rfl ?_
  refine ag_iconst (0 : Int32) dL_lesson_1 rfl ?_
  refine ag_qload_n 0 dL_lesson_2 rfl ?_
  refine ag_iload_n 1 dL_lesson_3 rfl ?_
  refine ag_iload_n 2 dL_lesson_4 rfl ?_
  refine agw_catch 6 (some t) [.int a1, .int a2] 2 [⟨0, 10, 13, 20⟩, ⟨0, 10, 17, 13⟩] ⟨0, 10, 21, 15⟩ [] rfl (fun z hz => by
    simp only [List.mem_cons, List.not_mem_nil, or_false] at hz
    rcases hz with rfl | rfl
    · exact ⟨by decide, "java/lang/IndexOutOfBoundsException", wl1 (i := 233) rfl rfl, by decide⟩
    · exact ⟨by decide, "java/lang/IllegalArgumentException", wl1 (i := 133) rfl rfl, by decide⟩) (by decide) (by decide) (wl1 (i := 134) rfl rfl) (wm1 (i := 216) rfl) rfl hx rfl rfl hct ⟨wl3 (i := 183) rfl rfl, (ciX8_lesson).1, (ciX8_lesson).2.1, (ciX8_lesson).2.2⟩ (wl3 (i := 184) rfl rfl) (wl3 (i := 185) rfl rfl) dL_lesson_5 rfl rfl (by simp [cat_q, cat_i, cat_l, cat_r]) ⟨Nat.le_of_ble_eq_true rfl, Nat.le_of_ble_eq_true rfl⟩ ⟨Nat.le_of_ble_eq_true rfl, Nat.le_of_ble_eq_true rfl⟩ (fun z b hz _ => ?_)
  refine ag_qstore _ (r := some b) dL_lesson_21 (by decide) rfl ?_
  refine ag_iconst (3 : Int32) dL_lesson_23 rfl ?_
  exact agw_ret dL_lesson_24 rfl rfl hz ⟨Nat.le_of_ble_eq_true rfl, Nat.le_of_ble_eq_true rfl⟩
abbrev ML_liberties : xM := ("AtariGardenLaw", cL_liberties, 5, some .int, "liberties")
abbrev rmL_liberties : Room := { frames := 8, cells := 2, slots := 12, locals := 143 }
abbrev hhL_liberties : List (Nat × Nat × Nat × Nat) := [(0, 10, 13, 20)]
theorem ciL_liberties : Cond.codeWith yL_liberties cL_liberties 5 (some .int) hhL_liberties ∈ wt ∧ Cond.initialized yL_liberties.cls ∈ wt ∧ (yL_liberties.cls ≠ "java/lang/invoke/MethodHandle" ∧ yL_liberties.cls ≠ "java/lang/invoke/VarHandle" ∧ (parseMethodDescriptor yL_liberties.desc).map (fun d => d.parameters.length) = some 4) := ⟨wl3 (i := 98) rfl rfl, wl1 (i := 0) rfl rfl, by decide +kernel, by decide +kernel, by decide +kernel⟩
set_option maxHeartbeats 4000000 in
set_option maxRecDepth 100000 in
theorem wtL_liberties_0 {l : Launch} {g : xG} (hl : l.stackTraces = false) {mo : Nat} {S : MS} {o : Nat → Int64} {h h2 : TH} (t : Nat) (hk : t_kd h t = 7) (hD : LD mo h) (hD2 : LD mo h2) (a1 : Int32) (a2 : Int32) {v : Int32} (hf : fX8_liberties h t a1 a2 = some (.inl (v, h2))) : WT yL_liberties ML_liberties hhL_liberties rmL_liberties l g [va_rf (some t), .int a1, .int a2, .ref (mo + 39)] (LW g mo h S o) 0 (LW g mo h2 S (vp_updL o 0 v.toInt64)) := by
  refine WT.of (lv0 := [(0, va_rf (some t)), (1, .int a1), (2, .int a2), (3, .ref (mo + 39))]) (by decide +kernel) rfl rfl (by simp [lg_sl, cat_q, cat_i, cat_l, cat_r]) (by simp [lv_args, cat_q, cat_i, cat_l, cat_r]) hl ?_
  have hx : (LW g mo h S o).2 t = some (.inr (6, thF h t (tgs 6))) := xU_l (thC_ob (ci := 6) hk (by decide))
  have hct : CT yX8_liberties MX8_liberties rmX8_liberties l g [va_rf (some t), .int a1, .int a2] (LW g mo h S o) (.inl (some (.int v))) (LW g mo h2 S o) := (ctX8_liberties (g := g) hl h t a1 a2 hf).frame (LD.dj (S := S) (o := o) hD)
  refine ag_aload_n 3 dL_liberties_0 rfl ?_
  refine ag_iconst (0 : Int32) dL_liberties_1 rfl ?_
  refine ag_qload_n 0 dL_liberties_2 rfl ?_
  refine ag_iload_n 1 dL_liberties_3 rfl ?_
  refine ag_iload_n 2 dL_liberties_4 rfl ?_
  refine ag_callV 6 (some t) [.int a1, .int a2] 2 rfl hx rfl rfl hct ⟨wl3 (i := 99) rfl rfl, (ciX8_liberties).1, (ciX8_liberties).2.1, (ciX8_liberties).2.2⟩ (wl3 (i := 100) rfl rfl) (wl3 (i := 101) rfl rfl) dL_liberties_5 rfl rfl (by simp [cat_q, cat_i, cat_l, cat_r]) ⟨Nat.le_of_ble_eq_true rfl, Nat.le_of_ble_eq_true rfl⟩ ⟨Nat.le_of_ble_eq_true rfl, Nat.le_of_ble_eq_true rfl⟩ (fun _ => ?_)
  refine ag_i2l dL_liberties_8 ?_
  refine ag_last (LW_out hD2) vin0 dL_liberties_9 ?_
  rw [LW_set hD2]
  refine ag_goto 17 dL_liberties_10 (by decide) ?_
  refine ag_iconst (0 : Int32) dL_liberties_17 rfl ?_
  exact agw_ret dL_liberties_18 rfl rfl (Nat.le_refl _) ⟨Nat.le_of_ble_eq_true rfl, Nat.le_of_ble_eq_true rfl⟩
set_option maxHeartbeats 4000000 in
set_option maxRecDepth 100000 in
theorem wtL_liberties_1 {l : Launch} {g : xG} (hl : l.stackTraces = false) {mo : Nat} {S : MS} {o : Nat → Int64} {h h2 : TH} (t : Nat) (hk : t_kd h t = 7) (hD : LD mo h) (hD2 : LD mo h2) (a1 : Int32) (a2 : Int32) (hf : fX8_liberties h t a1 a2 = some (.inr ("java/lang/IndexOutOfBoundsException", h2))) : WT yL_liberties ML_liberties hhL_liberties rmL_liberties l g [va_rf (some t), .int a1, .int a2, .ref (mo + 39)] (LW g mo h S o) 1 (LW g mo h2 S o) := by
  refine WT.of (lv0 := [(0, va_rf (some t)), (1, .int a1), (2, .int a2), (3, .ref (mo + 39))]) (by decide +kernel) rfl rfl (by simp [lg_sl, cat_q, cat_i, cat_l, cat_r]) (by simp [lv_args, cat_q, cat_i, cat_l, cat_r]) hl ?_
  have hx : (LW g mo h S o).2 t = some (.inr (6, thF h t (tgs 6))) := xU_l (thC_ob (ci := 6) hk (by decide))
  have hct : CT yX8_liberties MX8_liberties rmX8_liberties l g [va_rf (some t), .int a1, .int a2] (LW g mo h S o) (.inr "java/lang/IndexOutOfBoundsException") (LW g mo h2 S o) := (ctX8_liberties (g := g) hl h t a1 a2 hf).frame (LD.dj (S := S) (o := o) hD)
  refine ag_aload_n 3 dL_liberties_0 rfl ?_
  refine ag_iconst (0 : Int32) dL_liberties_1 rfl ?_
  refine ag_qload_n 0 dL_liberties_2 rfl ?_
  refine ag_iload_n 1 dL_liberties_3 rfl ?_
  refine ag_iload_n 2 dL_liberties_4 rfl ?_
  refine agw_catch 6 (some t) [.int a1, .int a2] 2 [] ⟨0, 10, 13, 20⟩ [] rfl (fun z hz => by
    cases hz) (by decide) (by decide) (wl1 (i := 233) rfl rfl) (wm2 (i := 8) rfl) rfl hx rfl rfl hct ⟨wl3 (i := 99) rfl rfl, (ciX8_liberties).1, (ciX8_liberties).2.1, (ciX8_liberties).2.2⟩ (wl3 (i := 100) rfl rfl) (wl3 (i := 101) rfl rfl) dL_liberties_5 rfl rfl (by simp [cat_q, cat_i, cat_l, cat_r]) ⟨Nat.le_of_ble_eq_true rfl, Nat.le_of_ble_eq_true rfl⟩ ⟨Nat.le_of_ble_eq_true rfl, Nat.le_of_ble_eq_true rfl⟩ (fun z b hz _ => ?_)
  refine ag_qstore _ (r := some b) dL_liberties_13 (by decide) rfl ?_
  refine ag_iconst (1 : Int32) dL_liberties_15 rfl ?_
  exact agw_ret dL_liberties_16 rfl rfl hz ⟨Nat.le_of_ble_eq_true rfl, Nat.le_of_ble_eq_true rfl⟩
abbrev ML_mark : xM := ("AtariGardenLaw", cL_mark, 6, some .int, "mark")
abbrev rmL_mark : Room := { frames := 8, cells := 2, slots := 12, locals := 144 }
abbrev hhL_mark : List (Nat × Nat × Nat × Nat) := [(0, 12, 15, 20), (0, 12, 19, 13)]
theorem ciL_mark : Cond.codeWith yL_mark cL_mark 6 (some .int) hhL_mark ∈ wt ∧ Cond.initialized yL_mark.cls ∈ wt ∧ (yL_mark.cls ≠ "java/lang/invoke/MethodHandle" ∧ yL_mark.cls ≠ "java/lang/invoke/VarHandle" ∧ (parseMethodDescriptor yL_mark.desc).map (fun d => d.parameters.length) = some 5) := ⟨wl4 (i := 30) rfl rfl, wl1 (i := 0) rfl rfl, by decide +kernel, by decide +kernel, by decide +kernel⟩
set_option maxHeartbeats 4000000 in
set_option maxRecDepth 100000 in
theorem wtL_mark_0 {l : Launch} {g : xG} (hl : l.stackTraces = false) {mo : Nat} {S : MS} {o : Nat → Int64} {h h2 : TH} (t : Nat) (hk : t_kd h t = 7) (hD : LD mo h) (hD2 : LD mo h2) (a1 : Int32) (a2 : Int32) (a3 : Int32) {v : Int32} (hf : fX8_mark h t a1 a2 a3 = some (.inl (v, h2))) : WT yL_mark ML_mark hhL_mark rmL_mark l g [va_rf (some t), .int a1, .int a2, .int a3, .ref (mo + 39)] (LW g mo h S o) 0 (LW g mo h2 S (vp_updL o 0 v.toInt64)) := by
  refine WT.of (lv0 := [(0, va_rf (some t)), (1, .int a1), (2, .int a2), (3, .int a3), (4, .ref (mo + 39))]) (by decide +kernel) rfl rfl (by simp [lg_sl, cat_q, cat_i, cat_l, cat_r]) (by simp [lv_args, cat_q, cat_i, cat_l, cat_r]) hl ?_
  have hx : (LW g mo h S o).2 t = some (.inr (6, thF h t (tgs 6))) := xU_l (thC_ob (ci := 6) hk (by decide))
  have hct : CT yX8_mark MX8_mark rmX8_mark l g [va_rf (some t), .int a1, .int a2, .int a3] (LW g mo h S o) (.inl (some (.int v))) (LW g mo h2 S o) := (ctX8_mark (g := g) hl h t a1 a2 a3 hf).frame (LD.dj (S := S) (o := o) hD)
  refine ag_aload 4 dL_mark_0 rfl ?_
  refine ag_iconst (0 : Int32) dL_mark_2 rfl ?_
  refine ag_qload_n 0 dL_mark_3 rfl ?_
  refine ag_iload_n 1 dL_mark_4 rfl ?_
  refine ag_iload_n 2 dL_mark_5 rfl ?_
  refine ag_iload_n 3 dL_mark_6 rfl ?_
  refine ag_callV 6 (some t) [.int a1, .int a2, .int a3] 3 rfl hx rfl rfl hct ⟨wl4 (i := 31) rfl rfl, (ciX8_mark).1, (ciX8_mark).2.1, (ciX8_mark).2.2⟩ (wl4 (i := 32) rfl rfl) (wl4 (i := 33) rfl rfl) dL_mark_7 rfl rfl (by simp [cat_q, cat_i, cat_l, cat_r]) ⟨Nat.le_of_ble_eq_true rfl, Nat.le_of_ble_eq_true rfl⟩ ⟨Nat.le_of_ble_eq_true rfl, Nat.le_of_ble_eq_true rfl⟩ (fun _ => ?_)
  refine ag_i2l dL_mark_10 ?_
  refine ag_last (LW_out hD2) vin0 dL_mark_11 ?_
  rw [LW_set hD2]
  refine ag_goto 23 dL_mark_12 (by decide) ?_
  refine ag_iconst (0 : Int32) dL_mark_23 rfl ?_
  exact agw_ret dL_mark_24 rfl rfl (Nat.le_refl _) ⟨Nat.le_of_ble_eq_true rfl, Nat.le_of_ble_eq_true rfl⟩
set_option maxHeartbeats 4000000 in
set_option maxRecDepth 100000 in
theorem wtL_mark_1 {l : Launch} {g : xG} (hl : l.stackTraces = false) {mo : Nat} {S : MS} {o : Nat → Int64} {h h2 : TH} (t : Nat) (hk : t_kd h t = 7) (hD : LD mo h) (hD2 : LD mo h2) (a1 : Int32) (a2 : Int32) (a3 : Int32) (hf : fX8_mark h t a1 a2 a3 = some (.inr ("java/lang/IndexOutOfBoundsException", h2))) : WT yL_mark ML_mark hhL_mark rmL_mark l g [va_rf (some t), .int a1, .int a2, .int a3, .ref (mo + 39)] (LW g mo h S o) 1 (LW g mo h2 S o) := by
  refine WT.of (lv0 := [(0, va_rf (some t)), (1, .int a1), (2, .int a2), (3, .int a3), (4, .ref (mo + 39))]) (by decide +kernel) rfl rfl (by simp [lg_sl, cat_q, cat_i, cat_l, cat_r]) (by simp [lv_args, cat_q, cat_i, cat_l, cat_r]) hl ?_
  have hx : (LW g mo h S o).2 t = some (.inr (6, thF h t (tgs 6))) := xU_l (thC_ob (ci := 6) hk (by decide))
  have hct : CT yX8_mark MX8_mark rmX8_mark l g [va_rf (some t), .int a1, .int a2, .int a3] (LW g mo h S o) (.inr "java/lang/IndexOutOfBoundsException") (LW g mo h2 S o) := (ctX8_mark (g := g) hl h t a1 a2 a3 hf).frame (LD.dj (S := S) (o := o) hD)
  refine ag_aload 4 dL_mark_0 rfl ?_
  refine ag_iconst (0 : Int32) dL_mark_2 rfl ?_
  refine ag_qload_n 0 dL_mark_3 rfl ?_
  refine ag_iload_n 1 dL_mark_4 rfl ?_
  refine ag_iload_n 2 dL_mark_5 rfl ?_
  refine ag_iload_n 3 dL_mark_6 rfl ?_
  refine agw_catch 6 (some t) [.int a1, .int a2, .int a3] 3 [] ⟨0, 12, 15, 20⟩ [⟨0, 12, 19, 13⟩] rfl (fun z hz => by
    cases hz) (by decide) (by decide) (wl1 (i := 233) rfl rfl) (wm2 (i := 8) rfl) rfl hx rfl rfl hct ⟨wl4 (i := 31) rfl rfl, (ciX8_mark).1, (ciX8_mark).2.1, (ciX8_mark).2.2⟩ (wl4 (i := 32) rfl rfl) (wl4 (i := 33) rfl rfl) dL_mark_7 rfl rfl (by simp [cat_q, cat_i, cat_l, cat_r]) ⟨Nat.le_of_ble_eq_true rfl, Nat.le_of_ble_eq_true rfl⟩ ⟨Nat.le_of_ble_eq_true rfl, Nat.le_of_ble_eq_true rfl⟩ (fun z b hz _ => ?_)
  refine ag_qstore _ (r := some b) dL_mark_15 (by decide) rfl ?_
  refine ag_iconst (1 : Int32) dL_mark_17 rfl ?_
  exact agw_ret dL_mark_18 rfl rfl hz ⟨Nat.le_of_ble_eq_true rfl, Nat.le_of_ble_eq_true rfl⟩
set_option maxHeartbeats 4000000 in
set_option maxRecDepth 100000 in
theorem wtL_mark_2 {l : Launch} {g : xG} (hl : l.stackTraces = false) {mo : Nat} {S : MS} {o : Nat → Int64} {h h2 : TH} (t : Nat) (hk : t_kd h t = 7) (hD : LD mo h) (hD2 : LD mo h2) (a1 : Int32) (a2 : Int32) (a3 : Int32) (hf : fX8_mark h t a1 a2 a3 = some (.inr ("java/lang/IllegalArgumentException", h2))) : WT yL_mark ML_mark hhL_mark rmL_mark l g [va_rf (some t), .int a1, .int a2, .int a3, .ref (mo + 39)] (LW g mo h S o) 2 (LW g mo h2 S o) := by
  refine WT.of (lv0 := [(0, va_rf (some t)), (1, .int a1), (2, .int a2), (3, .int a3), (4, .ref (mo + 39))]) (by decide +kernel) rfl rfl (by simp [lg_sl, cat_q, cat_i, cat_l, cat_r]) (by simp [lv_args, cat_q, cat_i, cat_l, cat_r]) hl ?_
  have hx : (LW g mo h S o).2 t = some (.inr (6, thF h t (tgs 6))) := xU_l (thC_ob (ci := 6) hk (by decide))
  have hct : CT yX8_mark MX8_mark rmX8_mark l g [va_rf (some t), .int a1, .int a2, .int a3] (LW g mo h S o) (.inr "java/lang/IllegalArgumentException") (LW g mo h2 S o) := (ctX8_mark (g := g) hl h t a1 a2 a3 hf).frame (LD.dj (S := S) (o := o) hD)
  refine ag_aload 4 dL_mark_0 rfl ?_
  refine ag_iconst (0 : Int32) dL_mark_2 rfl ?_
  refine ag_qload_n 0 dL_mark_3 rfl ?_
  refine ag_iload_n 1 dL_mark_4 rfl ?_
  refine ag_iload_n 2 dL_mark_5 rfl ?_
  refine ag_iload_n 3 dL_mark_6 rfl ?_
  refine agw_catch 6 (some t) [.int a1, .int a2, .int a3] 3 [⟨0, 12, 15, 20⟩] ⟨0, 12, 19, 13⟩ [] rfl (fun z hz => by
    simp only [List.mem_cons, List.not_mem_nil, or_false] at hz
    subst hz
    exact ⟨by decide, "java/lang/IndexOutOfBoundsException", wl1 (i := 233) rfl rfl, by decide⟩) (by decide) (by decide) (wl1 (i := 133) rfl rfl) (wm1 (i := 144) rfl) rfl hx rfl rfl hct ⟨wl4 (i := 31) rfl rfl, (ciX8_mark).1, (ciX8_mark).2.1, (ciX8_mark).2.2⟩ (wl4 (i := 32) rfl rfl) (wl4 (i := 33) rfl rfl) dL_mark_7 rfl rfl (by simp [cat_q, cat_i, cat_l, cat_r]) ⟨Nat.le_of_ble_eq_true rfl, Nat.le_of_ble_eq_true rfl⟩ ⟨Nat.le_of_ble_eq_true rfl, Nat.le_of_ble_eq_true rfl⟩ (fun z b hz _ => ?_)
  refine ag_qstore _ (r := some b) dL_mark_19 (by decide) rfl ?_
  refine ag_iconst (2 : Int32) dL_mark_21 rfl ?_
  exact agw_ret dL_mark_22 rfl rfl hz ⟨Nat.le_of_ble_eq_true rfl, Nat.le_of_ble_eq_true rfl⟩
abbrev ML_merge : xM := ("AtariGardenLaw", cL_merge, 5, some .int, "merge")
abbrev rmL_merge : Room := { frames := 10, cells := 125, slots := 750, locals := 459 }
abbrev hhL_merge : List (Nat × Nat × Nat × Nat) := [(0, 10, 13, 20), (0, 10, 17, 13), (0, 10, 21, 15)]
theorem ciL_merge : Cond.codeWith yL_merge cL_merge 5 (some .int) hhL_merge ∈ wt ∧ Cond.initialized yL_merge.cls ∈ wt ∧ (yL_merge.cls ≠ "java/lang/invoke/MethodHandle" ∧ yL_merge.cls ≠ "java/lang/invoke/VarHandle" ∧ (parseMethodDescriptor yL_merge.desc).map (fun d => d.parameters.length) = some 4) := ⟨wl4 (i := 57) rfl rfl, wl1 (i := 0) rfl rfl, by decide +kernel, by decide +kernel, by decide +kernel⟩
set_option maxHeartbeats 4000000 in
set_option maxRecDepth 100000 in
theorem wtL_merge_0 {l : Launch} {g : xG} (hl : l.stackTraces = false) {mo : Nat} {S : MS} {o : Nat → Int64} {h h2 : TH} (t : Nat) (hk : t_kd h t = 7) (hD : LD mo h) (hD2 : LD mo h2) (a1 : Int32) (a2 : Int32) {v : Int32} (hf : fX8_merge h t a1 a2 = some (.inl (v, h2))) : WT yL_merge ML_merge hhL_merge rmL_merge l g [va_rf (some t), .int a1, .int a2, .ref (mo + 39)] (LW g mo h S o) 0 (LW g mo h2 S (vp_updL o 0 v.toInt64)) := by
  refine WT.of (lv0 := [(0, va_rf (some t)), (1, .int a1), (2, .int a2), (3, .ref (mo + 39))]) (by decide +kernel) rfl rfl (by simp [lg_sl, cat_q, cat_i, cat_l, cat_r]) (by simp [lv_args, cat_q, cat_i, cat_l, cat_r]) hl ?_
  have hx : (LW g mo h S o).2 t = some (.inr (6, thF h t (tgs 6))) := xU_l (thC_ob (ci := 6) hk (by decide))
  have hct : CT yX8_merge MX8_merge rmX8_merge l g [va_rf (some t), .int a1, .int a2] (LW g mo h S o) (.inl (some (.int v))) (LW g mo h2 S o) := (ctX8_merge (g := g) hl h t a1 a2 hf).frame (LD.dj (S := S) (o := o) hD)
  refine ag_aload_n 3 dL_merge_0 rfl ?_
  refine ag_iconst (0 : Int32) dL_merge_1 rfl ?_
  refine ag_qload_n 0 dL_merge_2 rfl ?_
  refine ag_iload_n 1 dL_merge_3 rfl ?_
  refine ag_iload_n 2 dL_merge_4 rfl ?_
  refine ag_callV 6 (some t) [.int a1, .int a2] 2 rfl hx rfl rfl hct ⟨wl4 (i := 58) rfl rfl, (ciX8_merge).1, (ciX8_merge).2.1, (ciX8_merge).2.2⟩ (wl4 (i := 59) rfl rfl) (wl4 (i := 60) rfl rfl) dL_merge_5 rfl rfl (by simp [cat_q, cat_i, cat_l, cat_r]) ⟨Nat.le_of_ble_eq_true rfl, Nat.le_of_ble_eq_true rfl⟩ ⟨Nat.le_of_ble_eq_true rfl, Nat.le_of_ble_eq_true rfl⟩ (fun _ => ?_)
  refine ag_i2l dL_merge_8 ?_
  refine ag_last (LW_out hD2) vin0 dL_merge_9 ?_
  rw [LW_set hD2]
  refine ag_goto 25 dL_merge_10 (by decide) ?_
  refine ag_iconst (0 : Int32) dL_merge_25 rfl ?_
  exact agw_ret dL_merge_26 rfl rfl (Nat.le_refl _) ⟨Nat.le_of_ble_eq_true rfl, Nat.le_of_ble_eq_true rfl⟩
set_option maxHeartbeats 4000000 in
set_option maxRecDepth 100000 in
theorem wtL_merge_1 {l : Launch} {g : xG} (hl : l.stackTraces = false) {mo : Nat} {S : MS} {o : Nat → Int64} {h h2 : TH} (t : Nat) (hk : t_kd h t = 7) (hD : LD mo h) (hD2 : LD mo h2) (a1 : Int32) (a2 : Int32) (hf : fX8_merge h t a1 a2 = some (.inr ("java/lang/IndexOutOfBoundsException", h2))) : WT yL_merge ML_merge hhL_merge rmL_merge l g [va_rf (some t), .int a1, .int a2, .ref (mo + 39)] (LW g mo h S o) 1 (LW g mo h2 S o) := by
  refine WT.of (lv0 := [(0, va_rf (some t)), (1, .int a1), (2, .int a2), (3, .ref (mo + 39))]) (by decide +kernel) rfl rfl (by simp [lg_sl, cat_q, cat_i, cat_l, cat_r]) (by simp [lv_args, cat_q, cat_i, cat_l, cat_r]) hl ?_
  have hx : (LW g mo h S o).2 t = some (.inr (6, thF h t (tgs 6))) := xU_l (thC_ob (ci := 6) hk (by decide))
  have hct : CT yX8_merge MX8_merge rmX8_merge l g [va_rf (some t), .int a1, .int a2] (LW g mo h S o) (.inr "java/lang/IndexOutOfBoundsException") (LW g mo h2 S o) := (ctX8_merge (g := g) hl h t a1 a2 hf).frame (LD.dj (S := S) (o := o) hD)
  refine ag_aload_n 3 dL_merge_0 rfl ?_
  refine ag_iconst (0 : Int32) dL_merge_1 rfl ?_
  refine ag_qload_n 0 dL_merge_2 rfl ?_
  refine ag_iload_n 1 dL_merge_3 rfl ?_
  refine ag_iload_n 2 dL_merge_4 rfl ?_
  refine agw_catch 6 (some t) [.int a1, .int a2] 2 [] ⟨0, 10, 13, 20⟩ [⟨0, 10, 17, 13⟩, ⟨0, 10, 21, 15⟩] rfl (fun z hz => by
    cases hz) (by decide) (by decide) (wl1 (i := 233) rfl rfl) (wm2 (i := 8) rfl) rfl hx rfl rfl hct ⟨wl4 (i := 58) rfl rfl, (ciX8_merge).1, (ciX8_merge).2.1, (ciX8_merge).2.2⟩ (wl4 (i := 59) rfl rfl) (wl4 (i := 60) rfl rfl) dL_merge_5 rfl rfl (by simp [cat_q, cat_i, cat_l, cat_r]) ⟨Nat.le_of_ble_eq_true rfl, Nat.le_of_ble_eq_true rfl⟩ ⟨Nat.le_of_ble_eq_true rfl, Nat.le_of_ble_eq_true rfl⟩ (fun z b hz _ => ?_)
  refine ag_qstore _ (r := some b) dL_merge_13 (by decide) rfl ?_
  refine ag_iconst (1 : Int32) dL_merge_15 rfl ?_
  exact agw_ret dL_merge_16 rfl rfl hz ⟨Nat.le_of_ble_eq_true rfl, Nat.le_of_ble_eq_true rfl⟩
set_option maxHeartbeats 4000000 in
set_option maxRecDepth 100000 in
theorem wtL_merge_2 {l : Launch} {g : xG} (hl : l.stackTraces = false) {mo : Nat} {S : MS} {o : Nat → Int64} {h h2 : TH} (t : Nat) (hk : t_kd h t = 7) (hD : LD mo h) (hD2 : LD mo h2) (a1 : Int32) (a2 : Int32) (hf : fX8_merge h t a1 a2 = some (.inr ("java/lang/IllegalArgumentException", h2))) : WT yL_merge ML_merge hhL_merge rmL_merge l g [va_rf (some t), .int a1, .int a2, .ref (mo + 39)] (LW g mo h S o) 2 (LW g mo h2 S o) := by
  refine WT.of (lv0 := [(0, va_rf (some t)), (1, .int a1), (2, .int a2), (3, .ref (mo + 39))]) (by decide +kernel) rfl rfl (by simp [lg_sl, cat_q, cat_i, cat_l, cat_r]) (by simp [lv_args, cat_q, cat_i, cat_l, cat_r]) hl ?_
  have hx : (LW g mo h S o).2 t = some (.inr (6, thF h t (tgs 6))) := xU_l (thC_ob (ci := 6) hk (by decide))
  have hct : CT yX8_merge MX8_merge rmX8_merge l g [va_rf (some t), .int a1, .int a2] (LW g mo h S o) (.inr "java/lang/IllegalArgumentException") (LW g mo h2 S o) := (ctX8_merge (g := g) hl h t a1 a2 hf).frame (LD.dj (S := S) (o := o) hD)
  refine ag_aload_n 3 dL_merge_0 rfl ?_
  refine ag_iconst (0 : Int32) dL_merge_1 rfl ?_
  refine ag_qload_n 0 dL_merge_2 rfl ?_
  refine ag_iload_n 1 dL_merge_3 rfl ?_
  refine ag_iload_n 2 dL_merge_4 rfl ?_
  refine agw_catch 6 (some t) [.int a1, .int a2] 2 [⟨0, 10, 13, 20⟩] ⟨0, 10, 17, 13⟩ [⟨0, 10, 21, 15⟩] rfl (fun z hz => by
    simp only [List.mem_cons, List.not_mem_nil, or_false] at hz
    subst hz
    exact ⟨by decide, "java/lang/IndexOutOfBoundsException", wl1 (i := 233) rfl rfl, by decide⟩) (by decide) (by decide) (wl1 (i := 133) rfl rfl) (wm1 (i := 144) rfl) rfl hx rfl rfl hct ⟨wl4 (i := 58) rfl rfl, (ciX8_merge).1, (ciX8_merge).2.1, (ciX8_merge).2.2⟩ (wl4 (i := 59) rfl rfl) (wl4 (i := 60) rfl rfl) dL_merge_5 rfl rfl (by simp [cat_q, cat_i, cat_l, cat_r]) ⟨Nat.le_of_ble_eq_true rfl, Nat.le_of_ble_eq_true rfl⟩ ⟨Nat.le_of_ble_eq_true rfl, Nat.le_of_ble_eq_true rfl⟩ (fun z b hz _ => ?_)
  refine ag_qstore _ (r := some b) dL_merge_17 (by decide) rfl ?_
  refine ag_iconst (2 : Int32) dL_merge_19 rfl ?_
  exact agw_ret dL_merge_20 rfl rfl hz ⟨Nat.le_of_ble_eq_true rfl, Nat.le_of_ble_eq_true rfl⟩
set_option maxHeartbeats 4000000 in
set_option maxRecDepth 100000 in
theorem wtL_merge_3 {l : Launch} {g : xG} (hl : l.stackTraces = false) {mo : Nat} {S : MS} {o : Nat → Int64} {h h2 : TH} (t : Nat) (hk : t_kd h t = 7) (hD : LD mo h) (hD2 : LD mo h2) (a1 : Int32) (a2 : Int32) (hf : fX8_merge h t a1 a2 = some (.inr ("java/lang/IllegalStateException", h2))) : WT yL_merge ML_merge hhL_merge rmL_merge l g [va_rf (some t), .int a1, .int a2, .ref (mo + 39)] (LW g mo h S o) 3 (LW g mo h2 S o) := by
  refine WT.of (lv0 := [(0, va_rf (some t)), (1, .int a1), (2, .int a2), (3, .ref (mo + 39))]) (by decide +kernel) rfl rfl (by simp [lg_sl, cat_q, cat_i, cat_l, cat_r]) (by simp [lv_args, cat_q, cat_i, cat_l, cat_r]) hl ?_
  have hx : (LW g mo h S o).2 t = some (.inr (6, thF h t (tgs 6))) := xU_l (thC_ob (ci := 6) hk (by decide))
  have hct : CT yX8_merge MX8_merge rmX8_merge l g [va_rf (some t), .int a1, .int a2] (LW g mo h S o) (.inr "java/lang/IllegalStateException") (LW g mo h2 S o) := (ctX8_merge (g := g) hl h t a1 a2 hf).frame (LD.dj (S := S) (o := o) hD)
  refine ag_aload_n 3 dL_merge_0 rfl ?_
  refine ag_iconst (0 : Int32) dL_merge_1 rfl ?_
  refine ag_qload_n 0 dL_merge_2 rfl ?_
  refine ag_iload_n 1 dL_merge_3 rfl ?_
  refine ag_iload_n 2 dL_merge_4 rfl ?_
  refine agw_catch 6 (some t) [.int a1, .int a2] 2 [⟨0, 10, 13, 20⟩, ⟨0, 10, 17, 13⟩] ⟨0, 10, 21, 15⟩ [] rfl (fun z hz => by
    simp only [List.mem_cons, List.not_mem_nil, or_false] at hz
    rcases hz with rfl | rfl
    · exact ⟨by decide, "java/lang/IndexOutOfBoundsException", wl1 (i := 233) rfl rfl, by decide⟩
    · exact ⟨by decide, "java/lang/IllegalArgumentException", wl1 (i := 133) rfl rfl, by decide⟩) (by decide) (by decide) (wl1 (i := 134) rfl rfl) (wm1 (i := 216) rfl) rfl hx rfl rfl hct ⟨wl4 (i := 58) rfl rfl, (ciX8_merge).1, (ciX8_merge).2.1, (ciX8_merge).2.2⟩ (wl4 (i := 59) rfl rfl) (wl4 (i := 60) rfl rfl) dL_merge_5 rfl rfl (by simp [cat_q, cat_i, cat_l, cat_r]) ⟨Nat.le_of_ble_eq_true rfl, Nat.le_of_ble_eq_true rfl⟩ ⟨Nat.le_of_ble_eq_true rfl, Nat.le_of_ble_eq_true rfl⟩ (fun z b hz _ => ?_)
  refine ag_qstore _ (r := some b) dL_merge_21 (by decide) rfl ?_
  refine ag_iconst (3 : Int32) dL_merge_23 rfl ?_
  exact agw_ret dL_merge_24 rfl rfl hz ⟨Nat.le_of_ble_eq_true rfl, Nat.le_of_ble_eq_true rfl⟩
abbrev ML_net : xM := ("AtariGardenLaw", cL_net, 6, some .int, "net")
abbrev rmL_net : Room := { frames := 40, cells := 3, slots := 18, locals := 2394 }
abbrev hhL_net : List (Nat × Nat × Nat × Nat) := [(0, 19, 22, 20), (0, 19, 26, 13)]
theorem ciL_net : Cond.codeWith yL_net cL_net 6 (some .int) hhL_net ∈ wt ∧ Cond.initialized yL_net.cls ∈ wt ∧ (yL_net.cls ≠ "java/lang/invoke/MethodHandle" ∧ yL_net.cls ≠ "java/lang/invoke/VarHandle" ∧ (parseMethodDescriptor yL_net.desc).map (fun d => d.parameters.length) = some 5) := ⟨wl3 (i := 175) rfl rfl, wl1 (i := 0) rfl rfl, by decide +kernel, by decide +kernel, by decide +kernel⟩
set_option maxHeartbeats 4000000 in
set_option maxRecDepth 100000 in
theorem wtL_net_0 {l : Launch} {g : xG} (hl : l.stackTraces = false) {mo : Nat} {S : MS} {o : Nat → Int64} {h h2 : TH} (t : Nat) (hk : t_kd h t = 7) (hD : LD mo h) (hD2 : LD mo h2) (a1 : Int32) (a2 : Int32) (a3 : Int32) {v : Bool} (hf : fX8_net h t a1 a2 a3 = some (.inl (v, h2))) : WT yL_net ML_net hhL_net rmL_net l g [va_rf (some t), .int a1, .int a2, .int a3, .ref (mo + 39)] (LW g mo h S o) 0 (LW g mo h2 S (vp_updL o 0 (if v = true then (1 : Int64) else 0))) := by
  refine WT.of (lv0 := [(0, va_rf (some t)), (1, .int a1), (2, .int a2), (3, .int a3), (4, .ref (mo + 39))]) (by decide +kernel) rfl rfl (by simp [lg_sl, cat_q, cat_i, cat_l, cat_r]) (by simp [lv_args, cat_q, cat_i, cat_l, cat_r]) hl ?_
  have hx : (LW g mo h S o).2 t = some (.inr (6, thF h t (tgs 6))) := xU_l (thC_ob (ci := 6) hk (by decide))
  have hct : CT yX8_net MX8_net rmX8_net l g [va_rf (some t), .int a1, .int a2, .int a3] (LW g mo h S o) (.inl (some (.int (bi v)))) (LW g mo h2 S o) := (ctX8_net (g := g) hl h t a1 a2 a3 hf).frame (LD.dj (S := S) (o := o) hD)
  refine ag_aload 4 dL_net_0 rfl ?_
  refine ag_iconst (0 : Int32) dL_net_2 rfl ?_
  refine ag_qload_n 0 dL_net_3 rfl ?_
  refine ag_iload_n 1 dL_net_4 rfl ?_
  refine ag_iload_n 2 dL_net_5 rfl ?_
  refine ag_iload_n 3 dL_net_6 rfl ?_
  refine ag_callV 6 (some t) [.int a1, .int a2, .int a3] 3 rfl hx rfl rfl hct ⟨wl3 (i := 176) rfl rfl, (ciX8_net).1, (ciX8_net).2.1, (ciX8_net).2.2⟩ (wl3 (i := 177) rfl rfl) (wl3 (i := 178) rfl rfl) dL_net_7 rfl rfl (by simp [cat_q, cat_i, cat_l, cat_r]) ⟨Nat.le_of_ble_eq_true rfl, Nat.le_of_ble_eq_true rfl⟩ ⟨Nat.le_of_ble_eq_true rfl, Nat.le_of_ble_eq_true rfl⟩ (fun _ => ?_)
  cases v
  · refine ag_ifb_eq 17 dL_net_10 (by decide) (fun _ => ?_) (fun c => absurd rfl c)
    refine ag_lconst (0 : Int64) dL_net_17 rfl ?_
    refine ag_last (LW_out hD2) vin0 dL_net_18 ?_
    rw [LW_set hD2]
    refine ag_goto 30 dL_net_19 (by decide) ?_
    refine ag_iconst (0 : Int32) dL_net_30 rfl ?_
    exact agw_ret dL_net_31 rfl rfl (Nat.le_refl _) ⟨Nat.le_of_ble_eq_true rfl, Nat.le_of_ble_eq_true rfl⟩
  · refine ag_ifb_eq 17 dL_net_10 (by decide) (fun c => by cases c) (fun _ => ?_)
    refine ag_lconst (1 : Int64) dL_net_13 rfl ?_
    refine ag_goto 18 dL_net_14 (by decide) ?_
    refine ag_last (LW_out hD2) vin0 dL_net_18 ?_
    rw [LW_set hD2]
    refine ag_goto 30 dL_net_19 (by decide) ?_
    refine ag_iconst (0 : Int32) dL_net_30 rfl ?_
    exact agw_ret dL_net_31 rfl rfl (Nat.le_refl _) ⟨Nat.le_of_ble_eq_true rfl, Nat.le_of_ble_eq_true rfl⟩
set_option maxHeartbeats 4000000 in
set_option maxRecDepth 100000 in
theorem wtL_net_1 {l : Launch} {g : xG} (hl : l.stackTraces = false) {mo : Nat} {S : MS} {o : Nat → Int64} {h h2 : TH} (t : Nat) (hk : t_kd h t = 7) (hD : LD mo h) (hD2 : LD mo h2) (a1 : Int32) (a2 : Int32) (a3 : Int32) (hf : fX8_net h t a1 a2 a3 = some (.inr ("java/lang/IndexOutOfBoundsException", h2))) : WT yL_net ML_net hhL_net rmL_net l g [va_rf (some t), .int a1, .int a2, .int a3, .ref (mo + 39)] (LW g mo h S o) 1 (LW g mo h2 S o) := by
  refine WT.of (lv0 := [(0, va_rf (some t)), (1, .int a1), (2, .int a2), (3, .int a3), (4, .ref (mo + 39))]) (by decide +kernel) rfl rfl (by simp [lg_sl, cat_q, cat_i, cat_l, cat_r]) (by simp [lv_args, cat_q, cat_i, cat_l, cat_r]) hl ?_
  have hx : (LW g mo h S o).2 t = some (.inr (6, thF h t (tgs 6))) := xU_l (thC_ob (ci := 6) hk (by decide))
  have hct : CT yX8_net MX8_net rmX8_net l g [va_rf (some t), .int a1, .int a2, .int a3] (LW g mo h S o) (.inr "java/lang/IndexOutOfBoundsException") (LW g mo h2 S o) := (ctX8_net (g := g) hl h t a1 a2 a3 hf).frame (LD.dj (S := S) (o := o) hD)
  refine ag_aload 4 dL_net_0 rfl ?_
  refine ag_iconst (0 : Int32) dL_net_2 rfl ?_
  refine ag_qload_n 0 dL_net_3 rfl ?_
  refine ag_iload_n 1 dL_net_4 rfl ?_
  refine ag_iload_n 2 dL_net_5 rfl ?_
  refine ag_iload_n 3 dL_net_6 rfl ?_
  refine agw_catch 6 (some t) [.int a1, .int a2, .int a3] 3 [] ⟨0, 19, 22, 20⟩ [⟨0, 19, 26, 13⟩] rfl (fun z hz => by
    cases hz) (by decide) (by decide) (wl1 (i := 233) rfl rfl) (wm2 (i := 8) rfl) rfl hx rfl rfl hct ⟨wl3 (i := 176) rfl rfl, (ciX8_net).1, (ciX8_net).2.1, (ciX8_net).2.2⟩ (wl3 (i := 177) rfl rfl) (wl3 (i := 178) rfl rfl) dL_net_7 rfl rfl (by simp [cat_q, cat_i, cat_l, cat_r]) ⟨Nat.le_of_ble_eq_true rfl, Nat.le_of_ble_eq_true rfl⟩ ⟨Nat.le_of_ble_eq_true rfl, Nat.le_of_ble_eq_true rfl⟩ (fun z b hz _ => ?_)
  refine ag_qstore _ (r := some b) dL_net_22 (by decide) rfl ?_
  refine ag_iconst (1 : Int32) dL_net_24 rfl ?_
  exact agw_ret dL_net_25 rfl rfl hz ⟨Nat.le_of_ble_eq_true rfl, Nat.le_of_ble_eq_true rfl⟩
set_option maxHeartbeats 4000000 in
set_option maxRecDepth 100000 in
theorem wtL_net_2 {l : Launch} {g : xG} (hl : l.stackTraces = false) {mo : Nat} {S : MS} {o : Nat → Int64} {h h2 : TH} (t : Nat) (hk : t_kd h t = 7) (hD : LD mo h) (hD2 : LD mo h2) (a1 : Int32) (a2 : Int32) (a3 : Int32) (hf : fX8_net h t a1 a2 a3 = some (.inr ("java/lang/IllegalArgumentException", h2))) : WT yL_net ML_net hhL_net rmL_net l g [va_rf (some t), .int a1, .int a2, .int a3, .ref (mo + 39)] (LW g mo h S o) 2 (LW g mo h2 S o) := by
  refine WT.of (lv0 := [(0, va_rf (some t)), (1, .int a1), (2, .int a2), (3, .int a3), (4, .ref (mo + 39))]) (by decide +kernel) rfl rfl (by simp [lg_sl, cat_q, cat_i, cat_l, cat_r]) (by simp [lv_args, cat_q, cat_i, cat_l, cat_r]) hl ?_
  have hx : (LW g mo h S o).2 t = some (.inr (6, thF h t (tgs 6))) := xU_l (thC_ob (ci := 6) hk (by decide))
  have hct : CT yX8_net MX8_net rmX8_net l g [va_rf (some t), .int a1, .int a2, .int a3] (LW g mo h S o) (.inr "java/lang/IllegalArgumentException") (LW g mo h2 S o) := (ctX8_net (g := g) hl h t a1 a2 a3 hf).frame (LD.dj (S := S) (o := o) hD)
  refine ag_aload 4 dL_net_0 rfl ?_
  refine ag_iconst (0 : Int32) dL_net_2 rfl ?_
  refine ag_qload_n 0 dL_net_3 rfl ?_
  refine ag_iload_n 1 dL_net_4 rfl ?_
  refine ag_iload_n 2 dL_net_5 rfl ?_
  refine ag_iload_n 3 dL_net_6 rfl ?_
  refine agw_catch 6 (some t) [.int a1, .int a2, .int a3] 3 [⟨0, 19, 22, 20⟩] ⟨0, 19, 26, 13⟩ [] rfl (fun z hz => by
    simp only [List.mem_cons, List.not_mem_nil, or_false] at hz
    subst hz
    exact ⟨by decide, "java/lang/IndexOutOfBoundsException", wl1 (i := 233) rfl rfl, by decide⟩) (by decide) (by decide) (wl1 (i := 133) rfl rfl) (wm1 (i := 144) rfl) rfl hx rfl rfl hct ⟨wl3 (i := 176) rfl rfl, (ciX8_net).1, (ciX8_net).2.1, (ciX8_net).2.2⟩ (wl3 (i := 177) rfl rfl) (wl3 (i := 178) rfl rfl) dL_net_7 rfl rfl (by simp [cat_q, cat_i, cat_l, cat_r]) ⟨Nat.le_of_ble_eq_true rfl, Nat.le_of_ble_eq_true rfl⟩ ⟨Nat.le_of_ble_eq_true rfl, Nat.le_of_ble_eq_true rfl⟩ (fun z b hz _ => ?_)
  refine ag_qstore _ (r := some b) dL_net_26 (by decide) rfl ?_
  refine ag_iconst (2 : Int32) dL_net_28 rfl ?_
  exact agw_ret dL_net_29 rfl rfl hz ⟨Nat.le_of_ble_eq_true rfl, Nat.le_of_ble_eq_true rfl⟩
abbrev ML_node : xM := ("AtariGardenLaw", cL_node, 4, some .int, "node")
abbrev rmL_node : Room := { frames := 8, cells := 1, slots := 6, locals := 141 }
abbrev hhL_node : List (Nat × Nat × Nat × Nat) := [(0, 9, 12, 20)]
theorem ciL_node : Cond.codeWith yL_node cL_node 4 (some .int) hhL_node ∈ wt ∧ Cond.initialized yL_node.cls ∈ wt ∧ (yL_node.cls ≠ "java/lang/invoke/MethodHandle" ∧ yL_node.cls ≠ "java/lang/invoke/VarHandle" ∧ (parseMethodDescriptor yL_node.desc).map (fun d => d.parameters.length) = some 3) := ⟨wl4 (i := 42) rfl rfl, wl1 (i := 0) rfl rfl, by decide +kernel, by decide +kernel, by decide +kernel⟩
set_option maxHeartbeats 4000000 in
set_option maxRecDepth 100000 in
theorem wtL_node_0 {l : Launch} {g : xG} (hl : l.stackTraces = false) {mo : Nat} {S : MS} {o : Nat → Int64} {h h2 : TH} (t : Nat) (hk : t_kd h t = 7) (hD : LD mo h) (hD2 : LD mo h2) (a1 : Int32) {v : Int32} (hf : fX8_node h t a1 = some (.inl (v, h2))) : WT yL_node ML_node hhL_node rmL_node l g [va_rf (some t), .int a1, .ref (mo + 39)] (LW g mo h S o) 0 (LW g mo h2 S (vp_updL o 0 v.toInt64)) := by
  refine WT.of (lv0 := [(0, va_rf (some t)), (1, .int a1), (2, .ref (mo + 39))]) (by decide +kernel) rfl rfl (by simp [lg_sl, cat_q, cat_i, cat_l, cat_r]) (by simp [lv_args, cat_q, cat_i, cat_l, cat_r]) hl ?_
  have hx : (LW g mo h S o).2 t = some (.inr (6, thF h t (tgs 6))) := xU_l (thC_ob (ci := 6) hk (by decide))
  have hct : CT yX8_node MX8_node rmX8_node l g [va_rf (some t), .int a1] (LW g mo h S o) (.inl (some (.int v))) (LW g mo h2 S o) := (ctX8_node (g := g) hl h t a1 hf).frame (LD.dj (S := S) (o := o) hD)
  refine ag_aload_n 2 dL_node_0 rfl ?_
  refine ag_iconst (0 : Int32) dL_node_1 rfl ?_
  refine ag_qload_n 0 dL_node_2 rfl ?_
  refine ag_iload_n 1 dL_node_3 rfl ?_
  refine ag_callV 6 (some t) [.int a1] 1 rfl hx rfl rfl hct ⟨wl4 (i := 43) rfl rfl, (ciX8_node).1, (ciX8_node).2.1, (ciX8_node).2.2⟩ (wl4 (i := 44) rfl rfl) (wl4 (i := 45) rfl rfl) dL_node_4 rfl rfl (by simp [cat_q, cat_i, cat_l, cat_r]) ⟨Nat.le_of_ble_eq_true rfl, Nat.le_of_ble_eq_true rfl⟩ ⟨Nat.le_of_ble_eq_true rfl, Nat.le_of_ble_eq_true rfl⟩ (fun _ => ?_)
  refine ag_i2l dL_node_7 ?_
  refine ag_last (LW_out hD2) vin0 dL_node_8 ?_
  rw [LW_set hD2]
  refine ag_goto 15 dL_node_9 (by decide) ?_
  refine ag_iconst (0 : Int32) dL_node_15 rfl ?_
  exact agw_ret dL_node_16 rfl rfl (Nat.le_refl _) ⟨Nat.le_of_ble_eq_true rfl, Nat.le_of_ble_eq_true rfl⟩
set_option maxHeartbeats 4000000 in
set_option maxRecDepth 100000 in
theorem wtL_node_1 {l : Launch} {g : xG} (hl : l.stackTraces = false) {mo : Nat} {S : MS} {o : Nat → Int64} {h h2 : TH} (t : Nat) (hk : t_kd h t = 7) (hD : LD mo h) (hD2 : LD mo h2) (a1 : Int32) (hf : fX8_node h t a1 = some (.inr ("java/lang/IndexOutOfBoundsException", h2))) : WT yL_node ML_node hhL_node rmL_node l g [va_rf (some t), .int a1, .ref (mo + 39)] (LW g mo h S o) 1 (LW g mo h2 S o) := by
  refine WT.of (lv0 := [(0, va_rf (some t)), (1, .int a1), (2, .ref (mo + 39))]) (by decide +kernel) rfl rfl (by simp [lg_sl, cat_q, cat_i, cat_l, cat_r]) (by simp [lv_args, cat_q, cat_i, cat_l, cat_r]) hl ?_
  have hx : (LW g mo h S o).2 t = some (.inr (6, thF h t (tgs 6))) := xU_l (thC_ob (ci := 6) hk (by decide))
  have hct : CT yX8_node MX8_node rmX8_node l g [va_rf (some t), .int a1] (LW g mo h S o) (.inr "java/lang/IndexOutOfBoundsException") (LW g mo h2 S o) := (ctX8_node (g := g) hl h t a1 hf).frame (LD.dj (S := S) (o := o) hD)
  refine ag_aload_n 2 dL_node_0 rfl ?_
  refine ag_iconst (0 : Int32) dL_node_1 rfl ?_
  refine ag_qload_n 0 dL_node_2 rfl ?_
  refine ag_iload_n 1 dL_node_3 rfl ?_
  refine agw_catch 6 (some t) [.int a1] 1 [] ⟨0, 9, 12, 20⟩ [] rfl (fun z hz => by
    cases hz) (by decide) (by decide) (wl1 (i := 233) rfl rfl) (wm2 (i := 8) rfl) rfl hx rfl rfl hct ⟨wl4 (i := 43) rfl rfl, (ciX8_node).1, (ciX8_node).2.1, (ciX8_node).2.2⟩ (wl4 (i := 44) rfl rfl) (wl4 (i := 45) rfl rfl) dL_node_4 rfl rfl (by simp [cat_q, cat_i, cat_l, cat_r]) ⟨Nat.le_of_ble_eq_true rfl, Nat.le_of_ble_eq_true rfl⟩ ⟨Nat.le_of_ble_eq_true rfl, Nat.le_of_ble_eq_true rfl⟩ (fun z b hz _ => ?_)
  refine ag_qstore_n _ (r := some b) dL_node_12 rfl (by decide) rfl ?_
  refine ag_iconst (1 : Int32) dL_node_13 rfl ?_
  exact agw_ret dL_node_14 rfl rfl hz ⟨Nat.le_of_ble_eq_true rfl, Nat.le_of_ble_eq_true rfl⟩
abbrev ML_pass : xM := ("AtariGardenLaw", cL_pass, 5, some .int, "pass")
abbrev rmL_pass : Room := { frames := 8, cells := 4, slots := 24, locals := 177 }
abbrev hhL_pass : List (Nat × Nat × Nat × Nat) := [(0, 10, 13, 20), (0, 10, 17, 13), (0, 10, 21, 15)]
theorem ciL_pass : Cond.codeWith yL_pass cL_pass 5 (some .int) hhL_pass ∈ wt ∧ Cond.initialized yL_pass.cls ∈ wt ∧ (yL_pass.cls ≠ "java/lang/invoke/MethodHandle" ∧ yL_pass.cls ≠ "java/lang/invoke/VarHandle" ∧ (parseMethodDescriptor yL_pass.desc).map (fun d => d.parameters.length) = some 4) := ⟨wl3 (i := 7) rfl rfl, wl1 (i := 0) rfl rfl, by decide +kernel, by decide +kernel, by decide +kernel⟩
set_option maxHeartbeats 4000000 in
set_option maxRecDepth 100000 in
theorem wtL_pass_0 {l : Launch} {g : xG} (hl : l.stackTraces = false) {mo : Nat} {S : MS} {o : Nat → Int64} {h h2 : TH} (t : Nat) (hk : t_kd h t = 7) (hD : LD mo h) (hD2 : LD mo h2) (a1 : Int32) (a2 : Int32) {v : Int32} (hf : fX8_pass h t a1 a2 = some (.inl (v, h2))) : WT yL_pass ML_pass hhL_pass rmL_pass l g [va_rf (some t), .int a1, .int a2, .ref (mo + 39)] (LW g mo h S o) 0 (LW g mo h2 S (vp_updL o 0 v.toInt64)) := by
  refine WT.of (lv0 := [(0, va_rf (some t)), (1, .int a1), (2, .int a2), (3, .ref (mo + 39))]) (by decide +kernel) rfl rfl (by simp [lg_sl, cat_q, cat_i, cat_l, cat_r]) (by simp [lv_args, cat_q, cat_i, cat_l, cat_r]) hl ?_
  have hx : (LW g mo h S o).2 t = some (.inr (6, thF h t (tgs 6))) := xU_l (thC_ob (ci := 6) hk (by decide))
  have hct : CT yX8_pass MX8_pass rmX8_pass l g [va_rf (some t), .int a1, .int a2] (LW g mo h S o) (.inl (some (.int v))) (LW g mo h2 S o) := (ctX8_pass (g := g) hl h t a1 a2 hf).frame (LD.dj (S := S) (o := o) hD)
  refine ag_aload_n 3 dL_pass_0 rfl ?_
  refine ag_iconst (0 : Int32) dL_pass_1 rfl ?_
  refine ag_qload_n 0 dL_pass_2 rfl ?_
  refine ag_iload_n 1 dL_pass_3 rfl ?_
  refine ag_iload_n 2 dL_pass_4 rfl ?_
  refine ag_callV 6 (some t) [.int a1, .int a2] 2 rfl hx rfl rfl hct ⟨wl3 (i := 8) rfl rfl, (ciX8_pass).1, (ciX8_pass).2.1, (ciX8_pass).2.2⟩ (wl3 (i := 9) rfl rfl) (wl3 (i := 10) rfl rfl) dL_pass_5 rfl rfl (by simp [cat_q, cat_i, cat_l, cat_r]) ⟨Nat.le_of_ble_eq_true rfl, Nat.le_of_ble_eq_true rfl⟩ ⟨Nat.le_of_ble_eq_true rfl, Nat.le_of_ble_eq_true rfl⟩ (fun _ => ?_)
  refine ag_i2l dL_pass_8 ?_
  refine ag_last (LW_out hD2) vin0 dL_pass_9 ?_
  rw [LW_set hD2]
  refine ag_goto 25 dL_pass_10 (by decide) ?_
  refine ag_iconst (0 : Int32) dL_pass_25 rfl ?_
  exact agw_ret dL_pass_26 rfl rfl (Nat.le_refl _) ⟨Nat.le_of_ble_eq_true rfl, Nat.le_of_ble_eq_true rfl⟩
set_option maxHeartbeats 4000000 in
set_option maxRecDepth 100000 in
theorem wtL_pass_1 {l : Launch} {g : xG} (hl : l.stackTraces = false) {mo : Nat} {S : MS} {o : Nat → Int64} {h h2 : TH} (t : Nat) (hk : t_kd h t = 7) (hD : LD mo h) (hD2 : LD mo h2) (a1 : Int32) (a2 : Int32) (hf : fX8_pass h t a1 a2 = some (.inr ("java/lang/IndexOutOfBoundsException", h2))) : WT yL_pass ML_pass hhL_pass rmL_pass l g [va_rf (some t), .int a1, .int a2, .ref (mo + 39)] (LW g mo h S o) 1 (LW g mo h2 S o) := by
  refine WT.of (lv0 := [(0, va_rf (some t)), (1, .int a1), (2, .int a2), (3, .ref (mo + 39))]) (by decide +kernel) rfl rfl (by simp [lg_sl, cat_q, cat_i, cat_l, cat_r]) (by simp [lv_args, cat_q, cat_i, cat_l, cat_r]) hl ?_
  have hx : (LW g mo h S o).2 t = some (.inr (6, thF h t (tgs 6))) := xU_l (thC_ob (ci := 6) hk (by decide))
  have hct : CT yX8_pass MX8_pass rmX8_pass l g [va_rf (some t), .int a1, .int a2] (LW g mo h S o) (.inr "java/lang/IndexOutOfBoundsException") (LW g mo h2 S o) := (ctX8_pass (g := g) hl h t a1 a2 hf).frame (LD.dj (S := S) (o := o) hD)
  refine ag_aload_n 3 dL_pass_0 rfl ?_
  refine ag_iconst (0 : Int32) dL_pass_1 rfl ?_
  refine ag_qload_n 0 dL_pass_2 rfl ?_
  refine ag_iload_n 1 dL_pass_3 rfl ?_
  refine ag_iload_n 2 dL_pass_4 rfl ?_
  refine agw_catch 6 (some t) [.int a1, .int a2] 2 [] ⟨0, 10, 13, 20⟩ [⟨0, 10, 17, 13⟩, ⟨0, 10, 21, 15⟩] rfl (fun z hz => by
    cases hz) (by decide) (by decide) (wl1 (i := 233) rfl rfl) (wm2 (i := 8) rfl) rfl hx rfl rfl hct ⟨wl3 (i := 8) rfl rfl, (ciX8_pass).1, (ciX8_pass).2.1, (ciX8_pass).2.2⟩ (wl3 (i := 9) rfl rfl) (wl3 (i := 10) rfl rfl) dL_pass_5 rfl rfl (by simp [cat_q, cat_i, cat_l, cat_r]) ⟨Nat.le_of_ble_eq_true rfl, Nat.le_of_ble_eq_true rfl⟩ ⟨Nat.le_of_ble_eq_true rfl, Nat.le_of_ble_eq_true rfl⟩ (fun z b hz _ => ?_)
  refine ag_qstore _ (r := some b) dL_pass_13 (by decide) rfl ?_
  refine ag_iconst (1 : Int32) dL_pass_15 rfl ?_
  exact agw_ret dL_pass_16 rfl rfl hz ⟨Nat.le_of_ble_eq_true rfl, Nat.le_of_ble_eq_true rfl⟩
set_option maxHeartbeats 4000000 in
set_option maxRecDepth 100000 in
theorem wtL_pass_2 {l : Launch} {g : xG} (hl : l.stackTraces = false) {mo : Nat} {S : MS} {o : Nat → Int64} {h h2 : TH} (t : Nat) (hk : t_kd h t = 7) (hD : LD mo h) (hD2 : LD mo h2) (a1 : Int32) (a2 : Int32) (hf : fX8_pass h t a1 a2 = some (.inr ("java/lang/IllegalArgumentException", h2))) : WT yL_pass ML_pass hhL_pass rmL_pass l g [va_rf (some t), .int a1, .int a2, .ref (mo + 39)] (LW g mo h S o) 2 (LW g mo h2 S o) := by
  refine WT.of (lv0 := [(0, va_rf (some t)), (1, .int a1), (2, .int a2), (3, .ref (mo + 39))]) (by decide +kernel) rfl rfl (by simp [lg_sl, cat_q, cat_i, cat_l, cat_r]) (by simp [lv_args, cat_q, cat_i, cat_l, cat_r]) hl ?_
  have hx : (LW g mo h S o).2 t = some (.inr (6, thF h t (tgs 6))) := xU_l (thC_ob (ci := 6) hk (by decide))
  have hct : CT yX8_pass MX8_pass rmX8_pass l g [va_rf (some t), .int a1, .int a2] (LW g mo h S o) (.inr "java/lang/IllegalArgumentException") (LW g mo h2 S o) := (ctX8_pass (g := g) hl h t a1 a2 hf).frame (LD.dj (S := S) (o := o) hD)
  refine ag_aload_n 3 dL_pass_0 rfl ?_
  refine ag_iconst (0 : Int32) dL_pass_1 rfl ?_
  refine ag_qload_n 0 dL_pass_2 rfl ?_
  refine ag_iload_n 1 dL_pass_3 rfl ?_
  refine ag_iload_n 2 dL_pass_4 rfl ?_
  refine agw_catch 6 (some t) [.int a1, .int a2] 2 [⟨0, 10, 13, 20⟩] ⟨0, 10, 17, 13⟩ [⟨0, 10, 21, 15⟩] rfl (fun z hz => by
    simp only [List.mem_cons, List.not_mem_nil, or_false] at hz
    subst hz
    exact ⟨by decide, "java/lang/IndexOutOfBoundsException", wl1 (i := 233) rfl rfl, by decide⟩) (by decide) (by decide) (wl1 (i := 133) rfl rfl) (wm1 (i := 144) rfl) rfl hx rfl rfl hct ⟨wl3 (i := 8) rfl rfl, (ciX8_pass).1, (ciX8_pass).2.1, (ciX8_pass).2.2⟩ (wl3 (i := 9) rfl rfl) (wl3 (i := 10) rfl rfl) dL_pass_5 rfl rfl (by simp [cat_q, cat_i, cat_l, cat_r]) ⟨Nat.le_of_ble_eq_true rfl, Nat.le_of_ble_eq_true rfl⟩ ⟨Nat.le_of_ble_eq_true rfl, Nat.le_of_ble_eq_true rfl⟩ (fun z b hz _ => ?_)
  refine ag_qstore _ (r := some b) dL_pass_17 (by decide) rfl ?_
  refine ag_iconst (2 : Int32) dL_pass_19 rfl ?_
  exact agw_ret dL_pass_20 rfl rfl hz ⟨Nat.le_of_ble_eq_true rfl, Nat.le_of_ble_eq_true rfl⟩
set_option maxHeartbeats 4000000 in
set_option maxRecDepth 100000 in
theorem wtL_pass_3 {l : Launch} {g : xG} (hl : l.stackTraces = false) {mo : Nat} {S : MS} {o : Nat → Int64} {h h2 : TH} (t : Nat) (hk : t_kd h t = 7) (hD : LD mo h) (hD2 : LD mo h2) (a1 : Int32) (a2 : Int32) (hf : fX8_pass h t a1 a2 = some (.inr ("java/lang/IllegalStateException", h2))) : WT yL_pass ML_pass hhL_pass rmL_pass l g [va_rf (some t), .int a1, .int a2, .ref (mo + 39)] (LW g mo h S o) 3 (LW g mo h2 S o) := by
  refine WT.of (lv0 := [(0, va_rf (some t)), (1, .int a1), (2, .int a2), (3, .ref (mo + 39))]) (by decide +kernel) rfl rfl (by simp [lg_sl, cat_q, cat_i, cat_l, cat_r]) (by simp [lv_args, cat_q, cat_i, cat_l, cat_r]) hl ?_
  have hx : (LW g mo h S o).2 t = some (.inr (6, thF h t (tgs 6))) := xU_l (thC_ob (ci := 6) hk (by decide))
  have hct : CT yX8_pass MX8_pass rmX8_pass l g [va_rf (some t), .int a1, .int a2] (LW g mo h S o) (.inr "java/lang/IllegalStateException") (LW g mo h2 S o) := (ctX8_pass (g := g) hl h t a1 a2 hf).frame (LD.dj (S := S) (o := o) hD)
  refine ag_aload_n 3 dL_pass_0 rfl ?_
  refine ag_iconst (0 : Int32) dL_pass_1 rfl ?_
  refine ag_qload_n 0 dL_pass_2 rfl ?_
  refine ag_iload_n 1 dL_pass_3 rfl ?_
  refine ag_iload_n 2 dL_pass_4 rfl ?_
  refine agw_catch 6 (some t) [.int a1, .int a2] 2 [⟨0, 10, 13, 20⟩, ⟨0, 10, 17, 13⟩] ⟨0, 10, 21, 15⟩ [] rfl (fun z hz => by
    simp only [List.mem_cons, List.not_mem_nil, or_false] at hz
    rcases hz with rfl | rfl
    · exact ⟨by decide, "java/lang/IndexOutOfBoundsException", wl1 (i := 233) rfl rfl, by decide⟩
    · exact ⟨by decide, "java/lang/IllegalArgumentException", wl1 (i := 133) rfl rfl, by decide⟩) (by decide) (by decide) (wl1 (i := 134) rfl rfl) (wm1 (i := 216) rfl) rfl hx rfl rfl hct ⟨wl3 (i := 8) rfl rfl, (ciX8_pass).1, (ciX8_pass).2.1, (ciX8_pass).2.2⟩ (wl3 (i := 9) rfl rfl) (wl3 (i := 10) rfl rfl) dL_pass_5 rfl rfl (by simp [cat_q, cat_i, cat_l, cat_r]) ⟨Nat.le_of_ble_eq_true rfl, Nat.le_of_ble_eq_true rfl⟩ ⟨Nat.le_of_ble_eq_true rfl, Nat.le_of_ble_eq_true rfl⟩ (fun z b hz _ => ?_)
  refine ag_qstore _ (r := some b) dL_pass_21 (by decide) rfl ?_
  refine ag_iconst (3 : Int32) dL_pass_23 rfl ?_
  exact agw_ret dL_pass_24 rfl rfl hz ⟨Nat.le_of_ble_eq_true rfl, Nat.le_of_ble_eq_true rfl⟩
abbrev ML_play : xM := ("AtariGardenLaw", cL_play, 6, some .int, "play")
abbrev rmL_play : Room := { frames := 8, cells := 5, slots := 30, locals := 158 }
abbrev hhL_play : List (Nat × Nat × Nat × Nat) := [(0, 12, 15, 20), (0, 12, 19, 13), (0, 12, 23, 15)]
theorem ciL_play : Cond.codeWith yL_play cL_play 6 (some .int) hhL_play ∈ wt ∧ Cond.initialized yL_play.cls ∈ wt ∧ (yL_play.cls ≠ "java/lang/invoke/MethodHandle" ∧ yL_play.cls ≠ "java/lang/invoke/VarHandle" ∧ (parseMethodDescriptor yL_play.desc).map (fun d => d.parameters.length) = some 5) := ⟨wl2 (i := 182) rfl rfl, wl1 (i := 0) rfl rfl, by decide +kernel, by decide +kernel, by decide +kernel⟩
set_option maxHeartbeats 4000000 in
set_option maxRecDepth 100000 in
theorem wtL_play_0 {l : Launch} {g : xG} (hl : l.stackTraces = false) {mo : Nat} {S : MS} {o : Nat → Int64} {h h2 : TH} (t : Nat) (hk : t_kd h t = 7) (hD : LD mo h) (hD2 : LD mo h2) (a1 : Int32) (a2 : Int32) (a3 : Int32) {v : Int32} (hf : fX8_play h t a1 a2 a3 = some (.inl (v, h2))) : WT yL_play ML_play hhL_play rmL_play l g [va_rf (some t), .int a1, .int a2, .int a3, .ref (mo + 39)] (LW g mo h S o) 0 (LW g mo h2 S (vp_updL o 0 v.toInt64)) := by
  refine WT.of (lv0 := [(0, va_rf (some t)), (1, .int a1), (2, .int a2), (3, .int a3), (4, .ref (mo + 39))]) (by decide +kernel) rfl rfl (by simp [lg_sl, cat_q, cat_i, cat_l, cat_r]) (by simp [lv_args, cat_q, cat_i, cat_l, cat_r]) hl ?_
  have hx : (LW g mo h S o).2 t = some (.inr (6, thF h t (tgs 6))) := xU_l (thC_ob (ci := 6) hk (by decide))
  have hct : CT yX8_play MX8_play rmX8_play l g [va_rf (some t), .int a1, .int a2, .int a3] (LW g mo h S o) (.inl (some (.int v))) (LW g mo h2 S o) := (ctX8_play (g := g) hl h t a1 a2 a3 hf).frame (LD.dj (S := S) (o := o) hD)
  refine ag_aload 4 dL_play_0 rfl ?_
  refine ag_iconst (0 : Int32) dL_play_2 rfl ?_
  refine ag_qload_n 0 dL_play_3 rfl ?_
  refine ag_iload_n 1 dL_play_4 rfl ?_
  refine ag_iload_n 2 dL_play_5 rfl ?_
  refine ag_iload_n 3 dL_play_6 rfl ?_
  refine ag_callV 6 (some t) [.int a1, .int a2, .int a3] 3 rfl hx rfl rfl hct ⟨wl2 (i := 183) rfl rfl, (ciX8_play).1, (ciX8_play).2.1, (ciX8_play).2.2⟩ (wl2 (i := 184) rfl rfl) (wl2 (i := 185) rfl rfl) dL_play_7 rfl rfl (by simp [cat_q, cat_i, cat_l, cat_r]) ⟨Nat.le_of_ble_eq_true rfl, Nat.le_of_ble_eq_true rfl⟩ ⟨Nat.le_of_ble_eq_true rfl, Nat.le_of_ble_eq_true rfl⟩ (fun _ => ?_)
  refine ag_i2l dL_play_10 ?_
  refine ag_last (LW_out hD2) vin0 dL_play_11 ?_
  rw [LW_set hD2]
  refine ag_goto 27 dL_play_12 (by decide) ?_
  refine ag_iconst (0 : Int32) dL_play_27 rfl ?_
  exact agw_ret dL_play_28 rfl rfl (Nat.le_refl _) ⟨Nat.le_of_ble_eq_true rfl, Nat.le_of_ble_eq_true rfl⟩
set_option maxHeartbeats 4000000 in
set_option maxRecDepth 100000 in
theorem wtL_play_1 {l : Launch} {g : xG} (hl : l.stackTraces = false) {mo : Nat} {S : MS} {o : Nat → Int64} {h h2 : TH} (t : Nat) (hk : t_kd h t = 7) (hD : LD mo h) (hD2 : LD mo h2) (a1 : Int32) (a2 : Int32) (a3 : Int32) (hf : fX8_play h t a1 a2 a3 = some (.inr ("java/lang/IndexOutOfBoundsException", h2))) : WT yL_play ML_play hhL_play rmL_play l g [va_rf (some t), .int a1, .int a2, .int a3, .ref (mo + 39)] (LW g mo h S o) 1 (LW g mo h2 S o) := by
  refine WT.of (lv0 := [(0, va_rf (some t)), (1, .int a1), (2, .int a2), (3, .int a3), (4, .ref (mo + 39))]) (by decide +kernel) rfl rfl (by simp [lg_sl, cat_q, cat_i, cat_l, cat_r]) (by simp [lv_args, cat_q, cat_i, cat_l, cat_r]) hl ?_
  have hx : (LW g mo h S o).2 t = some (.inr (6, thF h t (tgs 6))) := xU_l (thC_ob (ci := 6) hk (by decide))
  have hct : CT yX8_play MX8_play rmX8_play l g [va_rf (some t), .int a1, .int a2, .int a3] (LW g mo h S o) (.inr "java/lang/IndexOutOfBoundsException") (LW g mo h2 S o) := (ctX8_play (g := g) hl h t a1 a2 a3 hf).frame (LD.dj (S := S) (o := o) hD)
  refine ag_aload 4 dL_play_0 rfl ?_
  refine ag_iconst (0 : Int32) dL_play_2 rfl ?_
  refine ag_qload_n 0 dL_play_3 rfl ?_
  refine ag_iload_n 1 dL_play_4 rfl ?_
  refine ag_iload_n 2 dL_play_5 rfl ?_
  refine ag_iload_n 3 dL_play_6 rfl ?_
  refine agw_catch 6 (some t) [.int a1, .int a2, .int a3] 3 [] ⟨0, 12, 15, 20⟩ [⟨0, 12, 19, 13⟩, ⟨0, 12, 23, 15⟩] rfl (fun z hz => by
    cases hz) (by decide) (by decide) (wl1 (i := 233) rfl rfl) (wm2 (i := 8) rfl) rfl hx rfl rfl hct ⟨wl2 (i := 183) rfl rfl, (ciX8_play).1, (ciX8_play).2.1, (ciX8_play).2.2⟩ (wl2 (i := 184) rfl rfl) (wl2 (i := 185) rfl rfl) dL_play_7 rfl rfl (by simp [cat_q, cat_i, cat_l, cat_r]) ⟨Nat.le_of_ble_eq_true rfl, Nat.le_of_ble_eq_true rfl⟩ ⟨Nat.le_of_ble_eq_true rfl, Nat.le_of_ble_eq_true rfl⟩ (fun z b hz _ => ?_)
  refine ag_qstore _ (r := some b) dL_play_15 (by decide) rfl ?_
  refine ag_iconst (1 : Int32) dL_play_17 rfl ?_
  exact agw_ret dL_play_18 rfl rfl hz ⟨Nat.le_of_ble_eq_true rfl, Nat.le_of_ble_eq_true rfl⟩
set_option maxHeartbeats 4000000 in
set_option maxRecDepth 100000 in
theorem wtL_play_2 {l : Launch} {g : xG} (hl : l.stackTraces = false) {mo : Nat} {S : MS} {o : Nat → Int64} {h h2 : TH} (t : Nat) (hk : t_kd h t = 7) (hD : LD mo h) (hD2 : LD mo h2) (a1 : Int32) (a2 : Int32) (a3 : Int32) (hf : fX8_play h t a1 a2 a3 = some (.inr ("java/lang/IllegalArgumentException", h2))) : WT yL_play ML_play hhL_play rmL_play l g [va_rf (some t), .int a1, .int a2, .int a3, .ref (mo + 39)] (LW g mo h S o) 2 (LW g mo h2 S o) := by
  refine WT.of (lv0 := [(0, va_rf (some t)), (1, .int a1), (2, .int a2), (3, .int a3), (4, .ref (mo + 39))]) (by decide +kernel) rfl rfl (by simp [lg_sl, cat_q, cat_i, cat_l, cat_r]) (by simp [lv_args, cat_q, cat_i, cat_l, cat_r]) hl ?_
  have hx : (LW g mo h S o).2 t = some (.inr (6, thF h t (tgs 6))) := xU_l (thC_ob (ci := 6) hk (by decide))
  have hct : CT yX8_play MX8_play rmX8_play l g [va_rf (some t), .int a1, .int a2, .int a3] (LW g mo h S o) (.inr "java/lang/IllegalArgumentException") (LW g mo h2 S o) := (ctX8_play (g := g) hl h t a1 a2 a3 hf).frame (LD.dj (S := S) (o := o) hD)
  refine ag_aload 4 dL_play_0 rfl ?_
  refine ag_iconst (0 : Int32) dL_play_2 rfl ?_
  refine ag_qload_n 0 dL_play_3 rfl ?_
  refine ag_iload_n 1 dL_play_4 rfl ?_
  refine ag_iload_n 2 dL_play_5 rfl ?_
  refine ag_iload_n 3 dL_play_6 rfl ?_
  refine agw_catch 6 (some t) [.int a1, .int a2, .int a3] 3 [⟨0, 12, 15, 20⟩] ⟨0, 12, 19, 13⟩ [⟨0, 12, 23, 15⟩] rfl (fun z hz => by
    simp only [List.mem_cons, List.not_mem_nil, or_false] at hz
    subst hz
    exact ⟨by decide, "java/lang/IndexOutOfBoundsException", wl1 (i := 233) rfl rfl, by decide⟩) (by decide) (by decide) (wl1 (i := 133) rfl rfl) (wm1 (i := 144) rfl) rfl hx rfl rfl hct ⟨wl2 (i := 183) rfl rfl, (ciX8_play).1, (ciX8_play).2.1, (ciX8_play).2.2⟩ (wl2 (i := 184) rfl rfl) (wl2 (i := 185) rfl rfl) dL_play_7 rfl rfl (by simp [cat_q, cat_i, cat_l, cat_r]) ⟨Nat.le_of_ble_eq_true rfl, Nat.le_of_ble_eq_true rfl⟩ ⟨Nat.le_of_ble_eq_true rfl, Nat.le_of_ble_eq_true rfl⟩ (fun z b hz _ => ?_)
  refine ag_qstore _ (r := some b) dL_play_19 (by decide) rfl ?_
  refine ag_iconst (2 : Int32) dL_play_21 rfl ?_
  exact agw_ret dL_play_22 rfl rfl hz ⟨Nat.le_of_ble_eq_true rfl, Nat.le_of_ble_eq_true rfl⟩
set_option maxHeartbeats 4000000 in
set_option maxRecDepth 100000 in
theorem wtL_play_3 {l : Launch} {g : xG} (hl : l.stackTraces = false) {mo : Nat} {S : MS} {o : Nat → Int64} {h h2 : TH} (t : Nat) (hk : t_kd h t = 7) (hD : LD mo h) (hD2 : LD mo h2) (a1 : Int32) (a2 : Int32) (a3 : Int32) (hf : fX8_play h t a1 a2 a3 = some (.inr ("java/lang/IllegalStateException", h2))) : WT yL_play ML_play hhL_play rmL_play l g [va_rf (some t), .int a1, .int a2, .int a3, .ref (mo + 39)] (LW g mo h S o) 3 (LW g mo h2 S o) := by
  refine WT.of (lv0 := [(0, va_rf (some t)), (1, .int a1), (2, .int a2), (3, .int a3), (4, .ref (mo + 39))]) (by decide +kernel) rfl rfl (by simp [lg_sl, cat_q, cat_i, cat_l, cat_r]) (by simp [lv_args, cat_q, cat_i, cat_l, cat_r]) hl ?_
  have hx : (LW g mo h S o).2 t = some (.inr (6, thF h t (tgs 6))) := xU_l (thC_ob (ci := 6) hk (by decide))
  have hct : CT yX8_play MX8_play rmX8_play l g [va_rf (some t), .int a1, .int a2, .int a3] (LW g mo h S o) (.inr "java/lang/IllegalStateException") (LW g mo h2 S o) := (ctX8_play (g := g) hl h t a1 a2 a3 hf).frame (LD.dj (S := S) (o := o) hD)
  refine ag_aload 4 dL_play_0 rfl ?_
  refine ag_iconst (0 : Int32) dL_play_2 rfl ?_
  refine ag_qload_n 0 dL_play_3 rfl ?_
  refine ag_iload_n 1 dL_play_4 rfl ?_
  refine ag_iload_n 2 dL_play_5 rfl ?_
  refine ag_iload_n 3 dL_play_6 rfl ?_
  refine agw_catch 6 (some t) [.int a1, .int a2, .int a3] 3 [⟨0, 12, 15, 20⟩, ⟨0, 12, 19, 13⟩] ⟨0, 12, 23, 15⟩ [] rfl (fun z hz => by
    simp only [List.mem_cons, List.not_mem_nil, or_false] at hz
    rcases hz with rfl | rfl
    · exact ⟨by decide, "java/lang/IndexOutOfBoundsException", wl1 (i := 233) rfl rfl, by decide⟩
    · exact ⟨by decide, "java/lang/IllegalArgumentException", wl1 (i := 133) rfl rfl, by decide⟩) (by decide) (by decide) (wl1 (i := 134) rfl rfl) (wm1 (i := 216) rfl) rfl hx rfl rfl hct ⟨wl2 (i := 183) rfl rfl, (ciX8_play).1, (ciX8_play).2.1, (ciX8_play).2.2⟩ (wl2 (i := 184) rfl rfl) (wl2 (i := 185) rfl rfl) dL_play_7 rfl rfl (by simp [cat_q, cat_i, cat_l, cat_r]) ⟨Nat.le_of_ble_eq_true rfl, Nat.le_of_ble_eq_true rfl⟩ ⟨Nat.le_of_ble_eq_true rfl, Nat.le_of_ble_eq_true rfl⟩ (fun z b hz _ => ?_)
  refine ag_qstore _ (r := some b) dL_play_23 (by decide) rfl ?_
  refine ag_iconst (3 : Int32) dL_play_25 rfl ?_
  exact agw_ret dL_play_26 rfl rfl hz ⟨Nat.le_of_ble_eq_true rfl, Nat.le_of_ble_eq_true rfl⟩
abbrev ML_player : xM := ("AtariGardenLaw", cL_player, 4, some .int, "player")
abbrev rmL_player : Room := { frames := 8, cells := 2, slots := 12, locals := 142 }
abbrev hhL_player : List (Nat × Nat × Nat × Nat) := [(0, 9, 12, 13), (0, 9, 15, 15)]
theorem ciL_player : Cond.codeWith yL_player cL_player 4 (some .int) hhL_player ∈ wt ∧ Cond.initialized yL_player.cls ∈ wt ∧ (yL_player.cls ≠ "java/lang/invoke/MethodHandle" ∧ yL_player.cls ≠ "java/lang/invoke/VarHandle" ∧ (parseMethodDescriptor yL_player.desc).map (fun d => d.parameters.length) = some 3) := ⟨wl1 (i := 132) rfl rfl, wl1 (i := 0) rfl rfl, by decide +kernel, by decide +kernel, by decide +kernel⟩
set_option maxHeartbeats 4000000 in
set_option maxRecDepth 100000 in
theorem wtL_player_0 {l : Launch} {g : xG} (hl : l.stackTraces = false) {mo : Nat} {S : MS} {o : Nat → Int64} {h h2 : TH} (t : Nat) (hk : t_kd h t = 7) (hD : LD mo h) (hD2 : LD mo h2) (a1 : Int32) {v : Int32} (hf : fX8_player h t a1 = some (.inl (v, h2))) : WT yL_player ML_player hhL_player rmL_player l g [va_rf (some t), .int a1, .ref (mo + 39)] (LW g mo h S o) 0 (LW g mo h2 S (vp_updL o 0 v.toInt64)) := by
  refine WT.of (lv0 := [(0, va_rf (some t)), (1, .int a1), (2, .ref (mo + 39))]) (by decide +kernel) rfl rfl (by simp [lg_sl, cat_q, cat_i, cat_l, cat_r]) (by simp [lv_args, cat_q, cat_i, cat_l, cat_r]) hl ?_
  have hx : (LW g mo h S o).2 t = some (.inr (6, thF h t (tgs 6))) := xU_l (thC_ob (ci := 6) hk (by decide))
  have hct : CT yX8_player MX8_player rmX8_player l g [va_rf (some t), .int a1] (LW g mo h S o) (.inl (some (.int v))) (LW g mo h2 S o) := (ctX8_player (g := g) hl h t a1 hf).frame (LD.dj (S := S) (o := o) hD)
  refine ag_aload_n 2 dL_player_0 rfl ?_
  refine ag_iconst (0 : Int32) dL_player_1 rfl ?_
  refine ag_qload_n 0 dL_player_2 rfl ?_
  refine ag_iload_n 1 dL_player_3 rfl ?_
  refine ag_callV 6 (some t) [.int a1] 1 rfl hx rfl rfl hct ⟨wl1 (i := 135) rfl rfl, (ciX8_player).1, (ciX8_player).2.1, (ciX8_player).2.2⟩ (wl1 (i := 136) rfl rfl) (wl1 (i := 137) rfl rfl) dL_player_4 rfl rfl (by simp [cat_q, cat_i, cat_l, cat_r]) ⟨Nat.le_of_ble_eq_true rfl, Nat.le_of_ble_eq_true rfl⟩ ⟨Nat.le_of_ble_eq_true rfl, Nat.le_of_ble_eq_true rfl⟩ (fun _ => ?_)
  refine ag_i2l dL_player_7 ?_
  refine ag_last (LW_out hD2) vin0 dL_player_8 ?_
  rw [LW_set hD2]
  refine ag_goto 18 dL_player_9 (by decide) ?_
  refine ag_iconst (0 : Int32) dL_player_18 rfl ?_
  exact agw_ret dL_player_19 rfl rfl (Nat.le_refl _) ⟨Nat.le_of_ble_eq_true rfl, Nat.le_of_ble_eq_true rfl⟩
set_option maxHeartbeats 4000000 in
set_option maxRecDepth 100000 in
theorem wtL_player_1 {l : Launch} {g : xG} (hl : l.stackTraces = false) {mo : Nat} {S : MS} {o : Nat → Int64} {h h2 : TH} (t : Nat) (hk : t_kd h t = 7) (hD : LD mo h) (hD2 : LD mo h2) (a1 : Int32) (hf : fX8_player h t a1 = some (.inr ("java/lang/IllegalArgumentException", h2))) : WT yL_player ML_player hhL_player rmL_player l g [va_rf (some t), .int a1, .ref (mo + 39)] (LW g mo h S o) 1 (LW g mo h2 S o) := by
  refine WT.of (lv0 := [(0, va_rf (some t)), (1, .int a1), (2, .ref (mo + 39))]) (by decide +kernel) rfl rfl (by simp [lg_sl, cat_q, cat_i, cat_l, cat_r]) (by simp [lv_args, cat_q, cat_i, cat_l, cat_r]) hl ?_
  have hx : (LW g mo h S o).2 t = some (.inr (6, thF h t (tgs 6))) := xU_l (thC_ob (ci := 6) hk (by decide))
  have hct : CT yX8_player MX8_player rmX8_player l g [va_rf (some t), .int a1] (LW g mo h S o) (.inr "java/lang/IllegalArgumentException") (LW g mo h2 S o) := (ctX8_player (g := g) hl h t a1 hf).frame (LD.dj (S := S) (o := o) hD)
  refine ag_aload_n 2 dL_player_0 rfl ?_
  refine ag_iconst (0 : Int32) dL_player_1 rfl ?_
  refine ag_qload_n 0 dL_player_2 rfl ?_
  refine ag_iload_n 1 dL_player_3 rfl ?_
  refine agw_catch 6 (some t) [.int a1] 1 [] ⟨0, 9, 12, 13⟩ [⟨0, 9, 15, 15⟩] rfl (fun z hz => by
    cases hz) (by decide) (by decide) (wl1 (i := 133) rfl rfl) (wm1 (i := 144) rfl) rfl hx rfl rfl hct ⟨wl1 (i := 135) rfl rfl, (ciX8_player).1, (ciX8_player).2.1, (ciX8_player).2.2⟩ (wl1 (i := 136) rfl rfl) (wl1 (i := 137) rfl rfl) dL_player_4 rfl rfl (by simp [cat_q, cat_i, cat_l, cat_r]) ⟨Nat.le_of_ble_eq_true rfl, Nat.le_of_ble_eq_true rfl⟩ ⟨Nat.le_of_ble_eq_true rfl, Nat.le_of_ble_eq_true rfl⟩ (fun z b hz _ => ?_)
  refine ag_qstore_n _ (r := some b) dL_player_12 rfl (by decide) rfl ?_
  refine ag_iconst (1 : Int32) dL_player_13 rfl ?_
  exact agw_ret dL_player_14 rfl rfl hz ⟨Nat.le_of_ble_eq_true rfl, Nat.le_of_ble_eq_true rfl⟩
set_option maxHeartbeats 4000000 in
set_option maxRecDepth 100000 in
theorem wtL_player_2 {l : Launch} {g : xG} (hl : l.stackTraces = false) {mo : Nat} {S : MS} {o : Nat → Int64} {h h2 : TH} (t : Nat) (hk : t_kd h t = 7) (hD : LD mo h) (hD2 : LD mo h2) (a1 : Int32) (hf : fX8_player h t a1 = some (.inr ("java/lang/IllegalStateException", h2))) : WT yL_player ML_player hhL_player rmL_player l g [va_rf (some t), .int a1, .ref (mo + 39)] (LW g mo h S o) 2 (LW g mo h2 S o) := by
  refine WT.of (lv0 := [(0, va_rf (some t)), (1, .int a1), (2, .ref (mo + 39))]) (by decide +kernel) rfl rfl (by simp [lg_sl, cat_q, cat_i, cat_l, cat_r]) (by simp [lv_args, cat_q, cat_i, cat_l, cat_r]) hl ?_
  have hx : (LW g mo h S o).2 t = some (.inr (6, thF h t (tgs 6))) := xU_l (thC_ob (ci := 6) hk (by decide))
  have hct : CT yX8_player MX8_player rmX8_player l g [va_rf (some t), .int a1] (LW g mo h S o) (.inr "java/lang/IllegalStateException") (LW g mo h2 S o) := (ctX8_player (g := g) hl h t a1 hf).frame (LD.dj (S := S) (o := o) hD)
  refine ag_aload_n 2 dL_player_0 rfl ?_
  refine ag_iconst (0 : Int32) dL_player_1 rfl ?_
  refine ag_qload_n 0 dL_player_2 rfl ?_
  refine ag_iload_n 1 dL_player_3 rfl ?_
  refine agw_catch 6 (some t) [.int a1] 1 [⟨0, 9, 12, 13⟩] ⟨0, 9, 15, 15⟩ [] rfl (fun z hz => by
    simp only [List.mem_cons, List.not_mem_nil, or_false] at hz
    subst hz
    exact ⟨by decide, "java/lang/IllegalArgumentException", wl1 (i := 133) rfl rfl, by decide⟩) (by decide) (by decide) (wl1 (i := 134) rfl rfl) (wm1 (i := 216) rfl) rfl hx rfl rfl hct ⟨wl1 (i := 135) rfl rfl, (ciX8_player).1, (ciX8_player).2.1, (ciX8_player).2.2⟩ (wl1 (i := 136) rfl rfl) (wl1 (i := 137) rfl rfl) dL_player_4 rfl rfl (by simp [cat_q, cat_i, cat_l, cat_r]) ⟨Nat.le_of_ble_eq_true rfl, Nat.le_of_ble_eq_true rfl⟩ ⟨Nat.le_of_ble_eq_true rfl, Nat.le_of_ble_eq_true rfl⟩ (fun z b hz _ => ?_)
  refine ag_qstore_n _ (r := some b) dL_player_15 rfl (by decide) rfl ?_
  refine ag_iconst (2 : Int32) dL_player_16 rfl ?_
  exact agw_ret dL_player_17 rfl rfl hz ⟨Nat.le_of_ble_eq_true rfl, Nat.le_of_ble_eq_true rfl⟩
abbrev ML_rank : xM := ("AtariGardenLaw", cL_rank, 4, some .int, "rank")
abbrev rmL_rank : Room := { frames := 8, cells := 1, slots := 6, locals := 140 }
abbrev hhL_rank : List (Nat × Nat × Nat × Nat) := [(0, 9, 12, 20)]
theorem ciL_rank : Cond.codeWith yL_rank cL_rank 4 (some .int) hhL_rank ∈ wt ∧ Cond.initialized yL_rank.cls ∈ wt ∧ (yL_rank.cls ≠ "java/lang/invoke/MethodHandle" ∧ yL_rank.cls ≠ "java/lang/invoke/VarHandle" ∧ (parseMethodDescriptor yL_rank.desc).map (fun d => d.parameters.length) = some 3) := ⟨wl1 (i := 232) rfl rfl, wl1 (i := 0) rfl rfl, by decide +kernel, by decide +kernel, by decide +kernel⟩
set_option maxHeartbeats 4000000 in
set_option maxRecDepth 100000 in
theorem wtL_rank_0 {l : Launch} {g : xG} (hl : l.stackTraces = false) {mo : Nat} {S : MS} {o : Nat → Int64} {h h2 : TH} (t : Nat) (hk : t_kd h t = 7) (hD : LD mo h) (hD2 : LD mo h2) (a1 : Int32) {v : Int32} (hf : fX8_rank h t a1 = some (.inl (v, h2))) : WT yL_rank ML_rank hhL_rank rmL_rank l g [va_rf (some t), .int a1, .ref (mo + 39)] (LW g mo h S o) 0 (LW g mo h2 S (vp_updL o 0 v.toInt64)) := by
  refine WT.of (lv0 := [(0, va_rf (some t)), (1, .int a1), (2, .ref (mo + 39))]) (by decide +kernel) rfl rfl (by simp [lg_sl, cat_q, cat_i, cat_l, cat_r]) (by simp [lv_args, cat_q, cat_i, cat_l, cat_r]) hl ?_
  have hx : (LW g mo h S o).2 t = some (.inr (6, thF h t (tgs 6))) := xU_l (thC_ob (ci := 6) hk (by decide))
  have hct : CT yX8_rank MX8_rank rmX8_rank l g [va_rf (some t), .int a1] (LW g mo h S o) (.inl (some (.int v))) (LW g mo h2 S o) := (ctX8_rank (g := g) hl h t a1 hf).frame (LD.dj (S := S) (o := o) hD)
  refine ag_aload_n 2 dL_rank_0 rfl ?_
  refine ag_iconst (0 : Int32) dL_rank_1 rfl ?_
  refine ag_qload_n 0 dL_rank_2 rfl ?_
  refine ag_iload_n 1 dL_rank_3 rfl ?_
  refine ag_callV 6 (some t) [.int a1] 1 rfl hx rfl rfl hct ⟨wl1 (i := 234) rfl rfl, (ciX8_rank).1, (ciX8_rank).2.1, (ciX8_rank).2.2⟩ (wl1 (i := 235) rfl rfl) (wl1 (i := 236) rfl rfl) dL_rank_4 rfl rfl (by simp [cat_q, cat_i, cat_l, cat_r]) ⟨Nat.le_of_ble_eq_true rfl, Nat.le_of_ble_eq_true rfl⟩ ⟨Nat.le_of_ble_eq_true rfl, Nat.le_of_ble_eq_true rfl⟩ (fun _ => ?_)
  refine ag_i2l dL_rank_7 ?_
  refine ag_last (LW_out hD2) vin0 dL_rank_8 ?_
  rw [LW_set hD2]
  refine ag_goto 15 dL_rank_9 (by decide) ?_
  refine ag_iconst (0 : Int32) dL_rank_15 rfl ?_
  exact agw_ret dL_rank_16 rfl rfl (Nat.le_refl _) ⟨Nat.le_of_ble_eq_true rfl, Nat.le_of_ble_eq_true rfl⟩
set_option maxHeartbeats 4000000 in
set_option maxRecDepth 100000 in
theorem wtL_rank_1 {l : Launch} {g : xG} (hl : l.stackTraces = false) {mo : Nat} {S : MS} {o : Nat → Int64} {h h2 : TH} (t : Nat) (hk : t_kd h t = 7) (hD : LD mo h) (hD2 : LD mo h2) (a1 : Int32) (hf : fX8_rank h t a1 = some (.inr ("java/lang/IndexOutOfBoundsException", h2))) : WT yL_rank ML_rank hhL_rank rmL_rank l g [va_rf (some t), .int a1, .ref (mo + 39)] (LW g mo h S o) 1 (LW g mo h2 S o) := by
  refine WT.of (lv0 := [(0, va_rf (some t)), (1, .int a1), (2, .ref (mo + 39))]) (by decide +kernel) rfl rfl (by simp [lg_sl, cat_q, cat_i, cat_l, cat_r]) (by simp [lv_args, cat_q, cat_i, cat_l, cat_r]) hl ?_
  have hx : (LW g mo h S o).2 t = some (.inr (6, thF h t (tgs 6))) := xU_l (thC_ob (ci := 6) hk (by decide))
  have hct : CT yX8_rank MX8_rank rmX8_rank l g [va_rf (some t), .int a1] (LW g mo h S o) (.inr "java/lang/IndexOutOfBoundsException") (LW g mo h2 S o) := (ctX8_rank (g := g) hl h t a1 hf).frame (LD.dj (S := S) (o := o) hD)
  refine ag_aload_n 2 dL_rank_0 rfl ?_
  refine ag_iconst (0 : Int32) dL_rank_1 rfl ?_
  refine ag_qload_n 0 dL_rank_2 rfl ?_
  refine ag_iload_n 1 dL_rank_3 rfl ?_
  refine agw_catch 6 (some t) [.int a1] 1 [] ⟨0, 9, 12, 20⟩ [] rfl (fun z hz => by
    cases hz) (by decide) (by decide) (wl1 (i := 233) rfl rfl) (wm2 (i := 8) rfl) rfl hx rfl rfl hct ⟨wl1 (i := 234) rfl rfl, (ciX8_rank).1, (ciX8_rank).2.1, (ciX8_rank).2.2⟩ (wl1 (i := 235) rfl rfl) (wl1 (i := 236) rfl rfl) dL_rank_4 rfl rfl (by simp [cat_q, cat_i, cat_l, cat_r]) ⟨Nat.le_of_ble_eq_true rfl, Nat.le_of_ble_eq_true rfl⟩ ⟨Nat.le_of_ble_eq_true rfl, Nat.le_of_ble_eq_true rfl⟩ (fun z b hz _ => ?_)
  refine ag_qstore_n _ (r := some b) dL_rank_12 rfl (by decide) rfl ?_
  refine ag_iconst (1 : Int32) dL_rank_13 rfl ?_
  exact agw_ret dL_rank_14 rfl rfl hz ⟨Nat.le_of_ble_eq_true rfl, Nat.le_of_ble_eq_true rfl⟩
abbrev ML_resign : xM := ("AtariGardenLaw", cL_resign, 4, some .int, "resign")
abbrev rmL_resign : Room := { frames := 8, cells := 2, slots := 12, locals := 142 }
abbrev hhL_resign : List (Nat × Nat × Nat × Nat) := [(0, 9, 12, 20), (0, 9, 15, 15)]
theorem ciL_resign : Cond.codeWith yL_resign cL_resign 4 (some .int) hhL_resign ∈ wt ∧ Cond.initialized yL_resign.cls ∈ wt ∧ (yL_resign.cls ≠ "java/lang/invoke/MethodHandle" ∧ yL_resign.cls ≠ "java/lang/invoke/VarHandle" ∧ (parseMethodDescriptor yL_resign.desc).map (fun d => d.parameters.length) = some 3) := ⟨wl3 (i := 43) rfl rfl, wl1 (i := 0) rfl rfl, by decide +kernel, by decide +kernel, by decide +kernel⟩
set_option maxHeartbeats 4000000 in
set_option maxRecDepth 100000 in
theorem wtL_resign_0 {l : Launch} {g : xG} (hl : l.stackTraces = false) {mo : Nat} {S : MS} {o : Nat → Int64} {h h2 : TH} (t : Nat) (hk : t_kd h t = 7) (hD : LD mo h) (hD2 : LD mo h2) (a1 : Int32) {v : Int32} (hf : fX8_resign h t a1 = some (.inl (v, h2))) : WT yL_resign ML_resign hhL_resign rmL_resign l g [va_rf (some t), .int a1, .ref (mo + 39)] (LW g mo h S o) 0 (LW g mo h2 S (vp_updL o 0 v.toInt64)) := by
  refine WT.of (lv0 := [(0, va_rf (some t)), (1, .int a1), (2, .ref (mo + 39))]) (by decide +kernel) rfl rfl (by simp [lg_sl, cat_q, cat_i, cat_l, cat_r]) (by simp [lv_args, cat_q, cat_i, cat_l, cat_r]) hl ?_
  have hx : (LW g mo h S o).2 t = some (.inr (6, thF h t (tgs 6))) := xU_l (thC_ob (ci := 6) hk (by decide))
  have hct : CT yX8_resign MX8_resign rmX8_resign l g [va_rf (some t), .int a1] (LW g mo h S o) (.inl (some (.int v))) (LW g mo h2 S o) := (ctX8_resign (g := g) hl h t a1 hf).frame (LD.dj (S := S) (o := o) hD)
  refine ag_aload_n 2 dL_resign_0 rfl ?_
  refine ag_iconst (0 : Int32) dL_resign_1 rfl ?_
  refine ag_qload_n 0 dL_resign_2 rfl ?_
  refine ag_iload_n 1 dL_resign_3 rfl ?_
  refine ag_callV 6 (some t) [.int a1] 1 rfl hx rfl rfl hct ⟨wl3 (i := 44) rfl rfl, (ciX8_resign).1, (ciX8_resign).2.1, (ciX8_resign).2.2⟩ (wl3 (i := 45) rfl rfl) (wl3 (i := 46) rfl rfl) dL_resign_4 rfl rfl (by simp [cat_q, cat_i, cat_l, cat_r]) ⟨Nat.le_of_ble_eq_true rfl, Nat.le_of_ble_eq_true rfl⟩ ⟨Nat.le_of_ble_eq_true rfl, Nat.le_of_ble_eq_true rfl⟩ (fun _ => ?_)
  refine ag_i2l dL_resign_7 ?_
  refine ag_last (LW_out hD2) vin0 dL_resign_8 ?_
  rw [LW_set hD2]
  refine ag_goto 18 dL_resign_9 (by decide) ?_
  refine ag_iconst (0 : Int32) dL_resign_18 rfl ?_
  exact agw_ret dL_resign_19 rfl rfl (Nat.le_refl _) ⟨Nat.le_of_ble_eq_true rfl, Nat.le_of_ble_eq_true rfl⟩
set_option maxHeartbeats 4000000 in
set_option maxRecDepth 100000 in
theorem wtL_resign_1 {l : Launch} {g : xG} (hl : l.stackTraces = false) {mo : Nat} {S : MS} {o : Nat → Int64} {h h2 : TH} (t : Nat) (hk : t_kd h t = 7) (hD : LD mo h) (hD2 : LD mo h2) (a1 : Int32) (hf : fX8_resign h t a1 = some (.inr ("java/lang/IndexOutOfBoundsException", h2))) : WT yL_resign ML_resign hhL_resign rmL_resign l g [va_rf (some t), .int a1, .ref (mo + 39)] (LW g mo h S o) 1 (LW g mo h2 S o) := by
  refine WT.of (lv0 := [(0, va_rf (some t)), (1, .int a1), (2, .ref (mo + 39))]) (by decide +kernel) rfl rfl (by simp [lg_sl, cat_q, cat_i, cat_l, cat_r]) (by simp [lv_args, cat_q, cat_i, cat_l, cat_r]) hl ?_
  have hx : (LW g mo h S o).2 t = some (.inr (6, thF h t (tgs 6))) := xU_l (thC_ob (ci := 6) hk (by decide))
  have hct : CT yX8_resign MX8_resign rmX8_resign l g [va_rf (some t), .int a1] (LW g mo h S o) (.inr "java/lang/IndexOutOfBoundsException") (LW g mo h2 S o) := (ctX8_resign (g := g) hl h t a1 hf).frame (LD.dj (S := S) (o := o) hD)
  refine ag_aload_n 2 dL_resign_0 rfl ?_
  refine ag_iconst (0 : Int32) dL_resign_1 rfl ?_
  refine ag_qload_n 0 dL_resign_2 rfl ?_
  refine ag_iload_n 1 dL_resign_3 rfl ?_
  refine agw_catch 6 (some t) [.int a1] 1 [] ⟨0, 9, 12, 20⟩ [⟨0, 9, 15, 15⟩] rfl (fun z hz => by
    cases hz) (by decide) (by decide) (wl1 (i := 233) rfl rfl) (wm2 (i := 8) rfl) rfl hx rfl rfl hct ⟨wl3 (i := 44) rfl rfl, (ciX8_resign).1, (ciX8_resign).2.1, (ciX8_resign).2.2⟩ (wl3 (i := 45) rfl rfl) (wl3 (i := 46) rfl rfl) dL_resign_4 rfl rfl (by simp [cat_q, cat_i, cat_l, cat_r]) ⟨Nat.le_of_ble_eq_true rfl, Nat.le_of_ble_eq_true rfl⟩ ⟨Nat.le_of_ble_eq_true rfl, Nat.le_of_ble_eq_true rfl⟩ (fun z b hz _ => ?_)
  refine ag_qstore_n _ (r := some b) dL_resign_12 rfl (by decide) rfl ?_
  refine ag_iconst (1 : Int32) dL_resign_13 rfl ?_
  exact agw_ret dL_resign_14 rfl rfl hz ⟨Nat.le_of_ble_eq_true rfl, Nat.le_of_ble_eq_true rfl⟩
set_option maxHeartbeats 4000000 in
set_option maxRecDepth 100000 in
theorem wtL_resign_2 {l : Launch} {g : xG} (hl : l.stackTraces = false) {mo : Nat} {S : MS} {o : Nat → Int64} {h h2 : TH} (t : Nat) (hk : t_kd h t = 7) (hD : LD mo h) (hD2 : LD mo h2) (a1 : Int32) (hf : fX8_resign h t a1 = some (.inr ("java/lang/IllegalStateException", h2))) : WT yL_resign ML_resign hhL_resign rmL_resign l g [va_rf (some t), .int a1, .ref (mo + 39)] (LW g mo h S o) 2 (LW g mo h2 S o) := by
  refine WT.of (lv0 := [(0, va_rf (some t)), (1, .int a1), (2, .ref (mo + 39))]) (by decide +kernel) rfl rfl (by simp [lg_sl, cat_q, cat_i, cat_l, cat_r]) (by simp [lv_args, cat_q, cat_i, cat_l, cat_r]) hl ?_
  have hx : (LW g mo h S o).2 t = some (.inr (6, thF h t (tgs 6))) := xU_l (thC_ob (ci := 6) hk (by decide))
  have hct : CT yX8_resign MX8_resign rmX8_resign l g [va_rf (some t), .int a1] (LW g mo h S o) (.inr "java/lang/IllegalStateException") (LW g mo h2 S o) := (ctX8_resign (g := g) hl h t a1 hf).frame (LD.dj (S := S) (o := o) hD)
  refine ag_aload_n 2 dL_resign_0 rfl ?_
  refine ag_iconst (0 : Int32) dL_resign_1 rfl ?_
  refine ag_qload_n 0 dL_resign_2 rfl ?_
  refine ag_iload_n 1 dL_resign_3 rfl ?_
  refine agw_catch 6 (some t) [.int a1] 1 [⟨0, 9, 12, 20⟩] ⟨0, 9, 15, 15⟩ [] rfl (fun z hz => by
    simp only [List.mem_cons, List.not_mem_nil, or_false] at hz
    subst hz
    exact ⟨by decide, "java/lang/IndexOutOfBoundsException", wl1 (i := 233) rfl rfl, by decide⟩) (by decide) (by decide) (wl1 (i := 134) rfl rfl) (wm1 (i := 216) rfl) rfl hx rfl rfl hct ⟨wl3 (i := 44) rfl rfl, (ciX8_resign).1, (ciX8_resign).2.1, (ciX8_resign).2.2⟩ (wl3 (i := 45) rfl rfl) (wl3 (i := 46) rfl rfl) dL_resign_4 rfl rfl (by simp [cat_q, cat_i, cat_l, cat_r]) ⟨Nat.le_of_ble_eq_true rfl, Nat.le_of_ble_eq_true rfl⟩ ⟨Nat.le_of_ble_eq_true rfl, Nat.le_of_ble_eq_true rfl⟩ (fun z b hz _ => ?_)
  refine ag_qstore_n _ (r := some b) dL_resign_15 rfl (by decide) rfl ?_
  refine ag_iconst (2 : Int32) dL_resign_16 rfl ?_
  exact agw_ret dL_resign_17 rfl rfl hz ⟨Nat.le_of_ble_eq_true rfl, Nat.le_of_ble_eq_true rfl⟩
abbrev ML_score : xM := ("AtariGardenLaw", cL_score, 4, some .int, "score")
abbrev rmL_score : Room := { frames := 8, cells := 1, slots := 6, locals := 141 }
abbrev hhL_score : List (Nat × Nat × Nat × Nat) := [(0, 9, 12, 20)]
theorem ciL_score : Cond.codeWith yL_score cL_score 4 (some .int) hhL_score ∈ wt ∧ Cond.initialized yL_score.cls ∈ wt ∧ (yL_score.cls ≠ "java/lang/invoke/MethodHandle" ∧ yL_score.cls ≠ "java/lang/invoke/VarHandle" ∧ (parseMethodDescriptor yL_score.desc).map (fun d => d.parameters.length) = some 3) := ⟨wl3 (i := 90) rfl rfl, wl1 (i := 0) rfl rfl, by decide +kernel, by decide +kernel, by decide +kernel⟩
set_option maxHeartbeats 4000000 in
set_option maxRecDepth 100000 in
theorem wtL_score_0 {l : Launch} {g : xG} (hl : l.stackTraces = false) {mo : Nat} {S : MS} {o : Nat → Int64} {h h2 : TH} (t : Nat) (hk : t_kd h t = 7) (hD : LD mo h) (hD2 : LD mo h2) (a1 : Int32) {v : Int32} (hf : fX8_score h t a1 = some (.inl (v, h2))) : WT yL_score ML_score hhL_score rmL_score l g [va_rf (some t), .int a1, .ref (mo + 39)] (LW g mo h S o) 0 (LW g mo h2 S (vp_updL o 0 v.toInt64)) := by
  refine WT.of (lv0 := [(0, va_rf (some t)), (1, .int a1), (2, .ref (mo + 39))]) (by decide +kernel) rfl rfl (by simp [lg_sl, cat_q, cat_i, cat_l, cat_r]) (by simp [lv_args, cat_q, cat_i, cat_l, cat_r]) hl ?_
  have hx : (LW g mo h S o).2 t = some (.inr (6, thF h t (tgs 6))) := xU_l (thC_ob (ci := 6) hk (by decide))
  have hct : CT yX8_score MX8_score rmX8_score l g [va_rf (some t), .int a1] (LW g mo h S o) (.inl (some (.int v))) (LW g mo h2 S o) := (ctX8_score (g := g) hl h t a1 hf).frame (LD.dj (S := S) (o := o) hD)
  refine ag_aload_n 2 dL_score_0 rfl ?_
  refine ag_iconst (0 : Int32) dL_score_1 rfl ?_
  refine ag_qload_n 0 dL_score_2 rfl ?_
  refine ag_iload_n 1 dL_score_3 rfl ?_
  refine ag_callV 6 (some t) [.int a1] 1 rfl hx rfl rfl hct ⟨wl3 (i := 91) rfl rfl, (ciX8_score).1, (ciX8_score).2.1, (ciX8_score).2.2⟩ (wl3 (i := 92) rfl rfl) (wl3 (i := 93) rfl rfl) dL_score_4 rfl rfl (by simp [cat_q, cat_i, cat_l, cat_r]) ⟨Nat.le_of_ble_eq_true rfl, Nat.le_of_ble_eq_true rfl⟩ ⟨Nat.le_of_ble_eq_true rfl, Nat.le_of_ble_eq_true rfl⟩ (fun _ => ?_)
  refine ag_i2l dL_score_7 ?_
  refine ag_last (LW_out hD2) vin0 dL_score_8 ?_
  rw [LW_set hD2]
  refine ag_goto 15 dL_score_9 (by decide) ?_
  refine ag_iconst (0 : Int32) dL_score_15 rfl ?_
  exact agw_ret dL_score_16 rfl rfl (Nat.le_refl _) ⟨Nat.le_of_ble_eq_true rfl, Nat.le_of_ble_eq_true rfl⟩
set_option maxHeartbeats 4000000 in
set_option maxRecDepth 100000 in
theorem wtL_score_1 {l : Launch} {g : xG} (hl : l.stackTraces = false) {mo : Nat} {S : MS} {o : Nat → Int64} {h h2 : TH} (t : Nat) (hk : t_kd h t = 7) (hD : LD mo h) (hD2 : LD mo h2) (a1 : Int32) (hf : fX8_score h t a1 = some (.inr ("java/lang/IndexOutOfBoundsException", h2))) : WT yL_score ML_score hhL_score rmL_score l g [va_rf (some t), .int a1, .ref (mo + 39)] (LW g mo h S o) 1 (LW g mo h2 S o) := by
  refine WT.of (lv0 := [(0, va_rf (some t)), (1, .int a1), (2, .ref (mo + 39))]) (by decide +kernel) rfl rfl (by simp [lg_sl, cat_q, cat_i, cat_l, cat_r]) (by simp [lv_args, cat_q, cat_i, cat_l, cat_r]) hl ?_
  have hx : (LW g mo h S o).2 t = some (.inr (6, thF h t (tgs 6))) := xU_l (thC_ob (ci := 6) hk (by decide))
  have hct : CT yX8_score MX8_score rmX8_score l g [va_rf (some t), .int a1] (LW g mo h S o) (.inr "java/lang/IndexOutOfBoundsException") (LW g mo h2 S o) := (ctX8_score (g := g) hl h t a1 hf).frame (LD.dj (S := S) (o := o) hD)
  refine ag_aload_n 2 dL_score_0 rfl ?_
  refine ag_iconst (0 : Int32) dL_score_1 rfl ?_
  refine ag_qload_n 0 dL_score_2 rfl ?_
  refine ag_iload_n 1 dL_score_3 rfl ?_
  refine agw_catch 6 (some t) [.int a1] 1 [] ⟨0, 9, 12, 20⟩ [] rfl (fun z hz => by
    cases hz) (by decide) (by decide) (wl1 (i := 233) rfl rfl) (wm2 (i := 8) rfl) rfl hx rfl rfl hct ⟨wl3 (i := 91) rfl rfl, (ciX8_score).1, (ciX8_score).2.1, (ciX8_score).2.2⟩ (wl3 (i := 92) rfl rfl) (wl3 (i := 93) rfl rfl) dL_score_4 rfl rfl (by simp [cat_q, cat_i, cat_l, cat_r]) ⟨Nat.le_of_ble_eq_true rfl, Nat.le_of_ble_eq_true rfl⟩ ⟨Nat.le_of_ble_eq_true rfl, Nat.le_of_ble_eq_true rfl⟩ (fun z b hz _ => ?_)
  refine ag_qstore_n _ (r := some b) dL_score_12 rfl (by decide) rfl ?_
  refine ag_iconst (1 : Int32) dL_score_13 rfl ?_
  exact agw_ret dL_score_14 rfl rfl hz ⟨Nat.le_of_ble_eq_true rfl, Nat.le_of_ble_eq_true rfl⟩
abbrev ML_sign : xM := ("AtariGardenLaw", cL_sign, 5, some .int, "sign")
abbrev rmL_sign : Room := { frames := 8, cells := 2, slots := 12, locals := 143 }
abbrev hhL_sign : List (Nat × Nat × Nat × Nat) := [(0, 10, 13, 20)]
theorem ciL_sign : Cond.codeWith yL_sign cL_sign 5 (some .int) hhL_sign ∈ wt ∧ Cond.initialized yL_sign.cls ∈ wt ∧ (yL_sign.cls ≠ "java/lang/invoke/MethodHandle" ∧ yL_sign.cls ≠ "java/lang/invoke/VarHandle" ∧ (parseMethodDescriptor yL_sign.desc).map (fun d => d.parameters.length) = some 4) := ⟨wl3 (i := 66) rfl rfl, wl1 (i := 0) rfl rfl, by decide +kernel, by decide +kernel, by decide +kernel⟩
set_option maxHeartbeats 4000000 in
set_option maxRecDepth 100000 in
theorem wtL_sign_0 {l : Launch} {g : xG} (hl : l.stackTraces = false) {mo : Nat} {S : MS} {o : Nat → Int64} {h h2 : TH} (t : Nat) (hk : t_kd h t = 7) (hD : LD mo h) (hD2 : LD mo h2) (a1 : Int32) (a2 : Int32) {v : Int32} (hf : fX8_sign h t a1 a2 = some (.inl (v, h2))) : WT yL_sign ML_sign hhL_sign rmL_sign l g [va_rf (some t), .int a1, .int a2, .ref (mo + 39)] (LW g mo h S o) 0 (LW g mo h2 S (vp_updL o 0 v.toInt64)) := by
  refine WT.of (lv0 := [(0, va_rf (some t)), (1, .int a1), (2, .int a2), (3, .ref (mo + 39))]) (by decide +kernel) rfl rfl (by simp [lg_sl, cat_q, cat_i, cat_l, cat_r]) (by simp [lv_args, cat_q, cat_i, cat_l, cat_r]) hl ?_
  have hx : (LW g mo h S o).2 t = some (.inr (6, thF h t (tgs 6))) := xU_l (thC_ob (ci := 6) hk (by decide))
  have hct : CT yX8_sign MX8_sign rmX8_sign l g [va_rf (some t), .int a1, .int a2] (LW g mo h S o) (.inl (some (.int v))) (LW g mo h2 S o) := (ctX8_sign (g := g) hl h t a1 a2 hf).frame (LD.dj (S := S) (o := o) hD)
  refine ag_aload_n 3 dL_sign_0 rfl ?_
  refine ag_iconst (0 : Int32) dL_sign_1 rfl ?_
  refine ag_qload_n 0 dL_sign_2 rfl ?_
  refine ag_iload_n 1 dL_sign_3 rfl ?_
  refine ag_iload_n 2 dL_sign_4 rfl ?_
  refine ag_callV 6 (some t) [.int a1, .int a2] 2 rfl hx rfl rfl hct ⟨wl3 (i := 67) rfl rfl, (ciX8_sign).1, (ciX8_sign).2.1, (ciX8_sign).2.2⟩ (wl3 (i := 68) rfl rfl) (wl3 (i := 69) rfl rfl) dL_sign_5 rfl rfl (by simp [cat_q, cat_i, cat_l, cat_r]) ⟨Nat.le_of_ble_eq_true rfl, Nat.le_of_ble_eq_true rfl⟩ ⟨Nat.le_of_ble_eq_true rfl, Nat.le_of_ble_eq_true rfl⟩ (fun _ => ?_)
  refine ag_i2l dL_sign_8 ?_
  refine ag_last (LW_out hD2) vin0 dL_sign_9 ?_
  rw [LW_set hD2]
  refine ag_goto 17 dL_sign_10 (by decide) ?_
  refine ag_iconst (0 : Int32) dL_sign_17 rfl ?_
  exact agw_ret dL_sign_18 rfl rfl (Nat.le_refl _) ⟨Nat.le_of_ble_eq_true rfl, Nat.le_of_ble_eq_true rfl⟩
set_option maxHeartbeats 4000000 in
set_option maxRecDepth 100000 in
theorem wtL_sign_1 {l : Launch} {g : xG} (hl : l.stackTraces = false) {mo : Nat} {S : MS} {o : Nat → Int64} {h h2 : TH} (t : Nat) (hk : t_kd h t = 7) (hD : LD mo h) (hD2 : LD mo h2) (a1 : Int32) (a2 : Int32) (hf : fX8_sign h t a1 a2 = some (.inr ("java/lang/IndexOutOfBoundsException", h2))) : WT yL_sign ML_sign hhL_sign rmL_sign l g [va_rf (some t), .int a1, .int a2, .ref (mo + 39)] (LW g mo h S o) 1 (LW g mo h2 S o) := by
  refine WT.of (lv0 := [(0, va_rf (some t)), (1, .int a1), (2, .int a2), (3, .ref (mo + 39))]) (by decide +kernel) rfl rfl (by simp [lg_sl, cat_q, cat_i, cat_l, cat_r]) (by simp [lv_args, cat_q, cat_i, cat_l, cat_r]) hl ?_
  have hx : (LW g mo h S o).2 t = some (.inr (6, thF h t (tgs 6))) := xU_l (thC_ob (ci := 6) hk (by decide))
  have hct : CT yX8_sign MX8_sign rmX8_sign l g [va_rf (some t), .int a1, .int a2] (LW g mo h S o) (.inr "java/lang/IndexOutOfBoundsException") (LW g mo h2 S o) := (ctX8_sign (g := g) hl h t a1 a2 hf).frame (LD.dj (S := S) (o := o) hD)
  refine ag_aload_n 3 dL_sign_0 rfl ?_
  refine ag_iconst (0 : Int32) dL_sign_1 rfl ?_
  refine ag_qload_n 0 dL_sign_2 rfl ?_
  refine ag_iload_n 1 dL_sign_3 rfl ?_
  refine ag_iload_n 2 dL_sign_4 rfl ?_
  refine agw_catch 6 (some t) [.int a1, .int a2] 2 [] ⟨0, 10, 13, 20⟩ [] rfl (fun z hz => by
    cases hz) (by decide) (by decide) (wl1 (i := 233) rfl rfl) (wm2 (i := 8) rfl) rfl hx rfl rfl hct ⟨wl3 (i := 67) rfl rfl, (ciX8_sign).1, (ciX8_sign).2.1, (ciX8_sign).2.2⟩ (wl3 (i := 68) rfl rfl) (wl3 (i := 69) rfl rfl) dL_sign_5 rfl rfl (by simp [cat_q, cat_i, cat_l, cat_r]) ⟨Nat.le_of_ble_eq_true rfl, Nat.le_of_ble_eq_true rfl⟩ ⟨Nat.le_of_ble_eq_true rfl, Nat.le_of_ble_eq_true rfl⟩ (fun z b hz _ => ?_)
  refine ag_qstore _ (r := some b) dL_sign_13 (by decide) rfl ?_
  refine ag_iconst (1 : Int32) dL_sign_15 rfl ?_
  exact agw_ret dL_sign_16 rfl rfl hz ⟨Nat.le_of_ble_eq_true rfl, Nat.le_of_ble_eq_true rfl⟩
abbrev ML_state : xM := ("AtariGardenLaw", cL_state, 4, some .int, "state")
abbrev rmL_state : Room := { frames := 8, cells := 1, slots := 6, locals := 141 }
abbrev hhL_state : List (Nat × Nat × Nat × Nat) := [(0, 9, 12, 20)]
theorem ciL_state : Cond.codeWith yL_state cL_state 4 (some .int) hhL_state ∈ wt ∧ Cond.initialized yL_state.cls ∈ wt ∧ (yL_state.cls ≠ "java/lang/invoke/MethodHandle" ∧ yL_state.cls ≠ "java/lang/invoke/VarHandle" ∧ (parseMethodDescriptor yL_state.desc).map (fun d => d.parameters.length) = some 3) := ⟨wl3 (i := 52) rfl rfl, wl1 (i := 0) rfl rfl, by decide +kernel, by decide +kernel, by decide +kernel⟩
set_option maxHeartbeats 4000000 in
set_option maxRecDepth 100000 in
theorem wtL_state_0 {l : Launch} {g : xG} (hl : l.stackTraces = false) {mo : Nat} {S : MS} {o : Nat → Int64} {h h2 : TH} (t : Nat) (hk : t_kd h t = 7) (hD : LD mo h) (hD2 : LD mo h2) (a1 : Int32) {v : Int32} (hf : fX8_state h t a1 = some (.inl (v, h2))) : WT yL_state ML_state hhL_state rmL_state l g [va_rf (some t), .int a1, .ref (mo + 39)] (LW g mo h S o) 0 (LW g mo h2 S (vp_updL o 0 v.toInt64)) := by
  refine WT.of (lv0 := [(0, va_rf (some t)), (1, .int a1), (2, .ref (mo + 39))]) (by decide +kernel) rfl rfl (by simp [lg_sl, cat_q, cat_i, cat_l, cat_r]) (by simp [lv_args, cat_q, cat_i, cat_l, cat_r]) hl ?_
  have hx : (LW g mo h S o).2 t = some (.inr (6, thF h t (tgs 6))) := xU_l (thC_ob (ci := 6) hk (by decide))
  have hct : CT yX8_state MX8_state rmX8_state l g [va_rf (some t), .int a1] (LW g mo h S o) (.inl (some (.int v))) (LW g mo h2 S o) := (ctX8_state (g := g) hl h t a1 hf).frame (LD.dj (S := S) (o := o) hD)
  refine ag_aload_n 2 dL_state_0 rfl ?_
  refine ag_iconst (0 : Int32) dL_state_1 rfl ?_
  refine ag_qload_n 0 dL_state_2 rfl ?_
  refine ag_iload_n 1 dL_state_3 rfl ?_
  refine ag_callV 6 (some t) [.int a1] 1 rfl hx rfl rfl hct ⟨wl3 (i := 53) rfl rfl, (ciX8_state).1, (ciX8_state).2.1, (ciX8_state).2.2⟩ (wl3 (i := 54) rfl rfl) (wl3 (i := 55) rfl rfl) dL_state_4 rfl rfl (by simp [cat_q, cat_i, cat_l, cat_r]) ⟨Nat.le_of_ble_eq_true rfl, Nat.le_of_ble_eq_true rfl⟩ ⟨Nat.le_of_ble_eq_true rfl, Nat.le_of_ble_eq_true rfl⟩ (fun _ => ?_)
  refine ag_i2l dL_state_7 ?_
  refine ag_last (LW_out hD2) vin0 dL_state_8 ?_
  rw [LW_set hD2]
  refine ag_goto 15 dL_state_9 (by decide) ?_
  refine ag_iconst (0 : Int32) dL_state_15 rfl ?_
  exact agw_ret dL_state_16 rfl rfl (Nat.le_refl _) ⟨Nat.le_of_ble_eq_true rfl, Nat.le_of_ble_eq_true rfl⟩
set_option maxHeartbeats 4000000 in
set_option maxRecDepth 100000 in
theorem wtL_state_1 {l : Launch} {g : xG} (hl : l.stackTraces = false) {mo : Nat} {S : MS} {o : Nat → Int64} {h h2 : TH} (t : Nat) (hk : t_kd h t = 7) (hD : LD mo h) (hD2 : LD mo h2) (a1 : Int32) (hf : fX8_state h t a1 = some (.inr ("java/lang/IndexOutOfBoundsException", h2))) : WT yL_state ML_state hhL_state rmL_state l g [va_rf (some t), .int a1, .ref (mo + 39)] (LW g mo h S o) 1 (LW g mo h2 S o) := by
  refine WT.of (lv0 := [(0, va_rf (some t)), (1, .int a1), (2, .ref (mo + 39))]) (by decide +kernel) rfl rfl (by simp [lg_sl, cat_q, cat_i, cat_l, cat_r]) (by simp [lv_args, cat_q, cat_i, cat_l, cat_r]) hl ?_
  have hx : (LW g mo h S o).2 t = some (.inr (6, thF h t (tgs 6))) := xU_l (thC_ob (ci := 6) hk (by decide))
  have hct : CT yX8_state MX8_state rmX8_state l g [va_rf (some t), .int a1] (LW g mo h S o) (.inr "java/lang/IndexOutOfBoundsException") (LW g mo h2 S o) := (ctX8_state (g := g) hl h t a1 hf).frame (LD.dj (S := S) (o := o) hD)
  refine ag_aload_n 2 dL_state_0 rfl ?_
  refine ag_iconst (0 : Int32) dL_state_1 rfl ?_
  refine ag_qload_n 0 dL_state_2 rfl ?_
  refine ag_iload_n 1 dL_state_3 rfl ?_
  refine agw_catch 6 (some t) [.int a1] 1 [] ⟨0, 9, 12, 20⟩ [] rfl (fun z hz => by
    cases hz) (by decide) (by decide) (wl1 (i := 233) rfl rfl) (wm2 (i := 8) rfl) rfl hx rfl rfl hct ⟨wl3 (i := 53) rfl rfl, (ciX8_state).1, (ciX8_state).2.1, (ciX8_state).2.2⟩ (wl3 (i := 54) rfl rfl) (wl3 (i := 55) rfl rfl) dL_state_4 rfl rfl (by simp [cat_q, cat_i, cat_l, cat_r]) ⟨Nat.le_of_ble_eq_true rfl, Nat.le_of_ble_eq_true rfl⟩ ⟨Nat.le_of_ble_eq_true rfl, Nat.le_of_ble_eq_true rfl⟩ (fun z b hz _ => ?_)
  refine ag_qstore_n _ (r := some b) dL_state_12 rfl (by decide) rfl ?_
  refine ag_iconst (1 : Int32) dL_state_13 rfl ?_
  exact agw_ret dL_state_14 rfl rfl hz ⟨Nat.le_of_ble_eq_true rfl, Nat.le_of_ble_eq_true rfl⟩
