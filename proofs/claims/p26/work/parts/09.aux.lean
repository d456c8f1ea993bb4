/-! Small helps of the decompiled functions: truth values, checks, and the fused rows. -/
def FU : Nat := 1000000000000000000000000000000000000000000000000000000000000
def bi : Bool → Int32 | true => 1 | false => 0
def xbool (v : Int32) : Option Bool := if v = 0 then some false else if v = 1 then some true else none
def xchar (v : Int32) : Option Int32 := if narrow .char (.int v) = .int v then some v else none
def xin (i : Int32) (n : Nat) : Bool := decide (0 ≤ i) && decide (i.toNatClampNeg < n)
theorem xin_v {i : Int32} {n : Nat} (h : xin i n = true) : vp_in i n := by
  simp only [xin, Bool.and_eq_true, decide_eq_true_eq] at h
  rintro (q | q)
  · exact absurd h.1 (Int32.not_le.mpr q)
  · omega
theorem xbool_eq {v : Int32} {b : Bool} (h : xbool v = some b) : v = bi b := by
  unfold xbool at h
  split at h
  · cases h; assumption
  · split at h
    · cases h; assumption
    · cases h
theorem nar_b (b : Bool) : narrow .boolean (.int (bi b)) = .int (bi b) := by cases b <;> rfl
theorem fit_b (b : Bool) : fits .boolean (.int (bi b)) = true := by cases b <;> rfl
theorem vpn_b (b : Bool) : vp_nar .boolean (bi b) = bi b := by cases b <;> rfl
theorem bi_0 {b : Bool} : bi b = 0 ↔ b = false := by cases b <;> decide
theorem xbind {α β : Type} {o : Option α} {f : α → Option β} {r : β} (h : o.bind f = some r) : ∃ a, o = some a ∧ f a = some r := by
  cases o with
  | none => cases h
  | some a => exact ⟨a, rfl, h⟩
theorem xlet {α β : Type} {a : α} {f : α → Option β} {r : β} (h : (some a).bind f = some r) : ∃ b, a = b ∧ f b = some r := ⟨a, rfl, h⟩
theorem xifn {c : Prop} [Decidable c] {α : Type} {t : Option α} {r : α} (h : (if c then t else none) = some r) : ∃ _ : c, t = some r := by
  by_cases hc : c
  · rw [if_pos hc] at h; exact ⟨hc, h⟩
  · rw [if_neg hc] at h; cases h
theorem xifz {c : Prop} [Decidable c] {α : Type} {t : Option α} {r : α} (h : (if c then none else t) = some r) : ∃ _ : ¬ c, t = some r := by
  by_cases hc : c
  · rw [if_pos hc] at h; cases h
  · rw [if_neg hc] at h; exact ⟨hc, h⟩
theorem xall {o : Option Nat} {f : Nat → Nat} {k : Nat} (h : o.all (fun b => f b == k) = true) : ∀ b, o = some b → f b = k := fun b e => by subst e; simpa using h
theorem tN_kd (h : TH) (kd n : Nat) : t_kd (s_N h kd n) (t_sz h) = kd := by simp [s_N, t_kd, x_up1]
section AUX
variable {M : xM} {rm : Room} {l : Launch} {g : xG} {x0 : xV} {o1 : Option Value ⊕ String} {x1 : xV} {kc ks : Nat} {x : xV} {pc : Nat} {lv : List (Nat × Value)} {st : List Value}
theorem aw_ifb_eq (tgt : Nat) {b : Bool} {off : Int} (hd : decode M.2.1 pc = .ok (.ifCond .eq off, 3)) (ht : (pc : Int) + off = (tgt : Int)) (kt : b = false → AW M rm l g x0 o1 x1 kc ks x tgt lv st) (kf : ¬ (b = false) → AW M rm l g x0 o1 x1 kc ks x (pc + 3) lv st) : AW M rm l g x0 o1 x1 kc ks x pc lv (.int (bi b) :: st) :=
  aw_if_eq tgt hd ht (fun q => kt (bi_0.mp q)) (fun q => kf (fun z => q (bi_0.mpr z)))
theorem aw_ifb_ne (tgt : Nat) {b : Bool} {off : Int} (hd : decode M.2.1 pc = .ok (.ifCond .ne off, 3)) (ht : (pc : Int) + off = (tgt : Int)) (kt : ¬ (b = false) → AW M rm l g x0 o1 x1 kc ks x tgt lv st) (kf : b = false → AW M rm l g x0 o1 x1 kc ks x (pc + 3) lv st) : AW M rm l g x0 o1 x1 kc ks x pc lv (.int (bi b) :: st) :=
  aw_if_ne tgt hd ht (fun q => kt (fun z => q (bi_0.mpr z))) (fun q => kf (bi_0.mp q))
theorem lg_cmp_0 {a b : Int64} : lg_cmp a b = 0 ↔ a = b := by
  unfold lg_cmp
  constructor
  · intro h
    split at h
    · exact absurd h (by decide)
    · split at h
      · assumption
      · exact absurd h (by decide)
  · rintro rfl
    rw [if_neg (by exact Int64.lt_irrefl), if_pos rfl]
theorem aw_lcmp_eq (tgt : Nat) {a b : Int64} {off : Int} (hd : decode M.2.1 pc = .ok (.lcmp, 1)) (hd2 : decode M.2.1 (pc + 1) = .ok (.ifCond .eq off, 3)) (ht : ((pc + 1 : Nat) : Int) + off = (tgt : Int)) (kt : a = b → AW M rm l g x0 o1 x1 kc ks x tgt lv st) (kf : ¬ (a = b) → AW M rm l g x0 o1 x1 kc ks x (pc + 1 + 3) lv st) : AW M rm l g x0 o1 x1 kc ks x pc lv (.long b :: .long a :: st) :=
  aw_lcmp hd (aw_if_eq tgt hd2 ht (fun q => kt (lg_cmp_0.mp q)) (fun q => kf (fun z => q (lg_cmp_0.mpr z))))
theorem aw_lcmp_ne (tgt : Nat) {a b : Int64} {off : Int} (hd : decode M.2.1 pc = .ok (.lcmp, 1)) (hd2 : decode M.2.1 (pc + 1) = .ok (.ifCond .ne off, 3)) (ht : ((pc + 1 : Nat) : Int) + off = (tgt : Int)) (kt : ¬ (a = b) → AW M rm l g x0 o1 x1 kc ks x tgt lv st) (kf : a = b → AW M rm l g x0 o1 x1 kc ks x (pc + 1 + 3) lv st) : AW M rm l g x0 o1 x1 kc ks x pc lv (.long b :: .long a :: st) :=
  aw_lcmp hd (aw_if_ne tgt hd2 ht (fun q => kt (fun z => q (lg_cmp_0.mpr z))) (fun q => kf (lg_cmp_0.mp q)))
theorem aw_l2i {a : Int64} (hd : decode M.2.1 pc = .ok (.l2i, 1)) (k : AW M rm l g x0 o1 x1 kc ks x (pc + 1) lv (.int a.toInt32 :: st)) : AW M rm l g x0 o1 x1 kc ks x pc lv (.long a :: st) := fun p e s m args below meth c B H locs ls hH hl => lv_l2i B.1 B.2.1 hd rfl (k p e s m args below meth c B H locs ls hH hl)
theorem aw_zretb {v : Int32} {b : Bool} (hd : decode M.2.1 pc = .ok (.ireturn, 1)) (hr : M.2.2.2.1 = some .boolean) (hf : xbool v = some b) (hv : o1 = .inl (some (.int (bi b)))) (hx : x = x1) (hk : kc ≤ rm.cells ∧ ks ≤ rm.slots) : AW M rm l g x0 o1 x1 kc ks x pc lv [.int v] := by
  rw [xbool_eq hf]
  exact aw_zret hd hr (nar_b b) hv hx hk
theorem aw_cretb {v r : Int32} (hd : decode M.2.1 pc = .ok (.ireturn, 1)) (hr : M.2.2.2.1 = some .char) (hf : xchar v = some r) (hv : o1 = .inl (some (.int r))) (hx : x = x1) (hk : kc ≤ rm.cells ∧ ks ≤ rm.slots) : AW M rm l g x0 o1 x1 kc ks x pc lv [.int v] := by
  unfold xchar at hf
  split at hf
  · cases hf
    exact aw_zret hd hr (by assumption) hv hx hk
  · cases hf
def x_max (a b : Int32) : Int32 := (if a < b then b else a)
theorem aw_mmax {index : Nat} {a b : Int32} (hl0 : Cond.methodLink M.1 index Lib.Math.max.name ∈ wt) (hst : Cond.static Lib.Math.max.name ∈ wt) (hini : Cond.initialized "java/lang/Math" ∈ wt) (hcd : Cond.code Lib.Math.max.name Lib.Math.max.code 2 (some .int) ∈ wt) (hr : (st.map fun v => v.category).sum ≤ 8) (hR : 1 ≤ rm.frames ∧ 21 ≤ rm.locals) (hk : kc ≤ rm.cells ∧ ks ≤ rm.slots) (hd : decode M.2.1 pc = .ok (.invokestatic index, 3))
    (k : AW M rm l g x0 o1 x1 kc ks x (pc + 3) lv (.int (x_max a b) :: st)) : AW M rm l g x0 o1 x1 kc ks x pc lv (.int b :: .int a :: st) := fun p e s m args below meth c B H locs ls hH hl =>
  va_mmax B.1 B.2.1 (B.2.2.1.trans hl.1.symm) B.2.2.2.2.2.1 (B.2.2.2.2.2.2.1 _ hl0) (B.2.2.2.2.2.2.1 _ hst) (B.2.2.2.2.2.2.1 _ hini) (B.2.2.2.2.2.2.1 _ hcd) hR.1 (by have := hR.2; omega) hk.1 hk.2 hd (k p e s m args below meth c B H locs ls hH hl)
def x_min (a b : Int32) : Int32 := (if b < a then b else a)
theorem aw_mmin {index : Nat} {a b : Int32} (hl0 : Cond.methodLink M.1 index Lib.Math.min.name ∈ wt) (hst : Cond.static Lib.Math.min.name ∈ wt) (hini : Cond.initialized "java/lang/Math" ∈ wt) (hcd : Cond.code Lib.Math.min.name Lib.Math.min.code 2 (some .int) ∈ wt) (hr : (st.map fun v => v.category).sum ≤ 8) (hR : 1 ≤ rm.frames ∧ 21 ≤ rm.locals) (hk : kc ≤ rm.cells ∧ ks ≤ rm.slots) (hd : decode M.2.1 pc = .ok (.invokestatic index, 3))
    (k : AW M rm l g x0 o1 x1 kc ks x (pc + 3) lv (.int (x_min a b) :: st)) : AW M rm l g x0 o1 x1 kc ks x pc lv (.int b :: .int a :: st) := fun p e s m args below meth c B H locs ls hH hl =>
  va_mmin B.1 B.2.1 (B.2.2.1.trans hl.1.symm) B.2.2.2.2.2.1 (B.2.2.2.2.2.2.1 _ hl0) (B.2.2.2.2.2.2.1 _ hst) (B.2.2.2.2.2.2.1 _ hini) (B.2.2.2.2.2.2.1 _ hcd) hR.1 (by have := hR.2; omega) hk.1 hk.2 hd (k p e s m args below meth c B H locs ls hH hl)
def x_abs (a : Int32) : Int32 := (if 0 ≤ a then a else 0 - a)
theorem aw_mabs {index : Nat} {a : Int32} (hl0 : Cond.methodLink M.1 index Lib.Math.abs.name ∈ wt) (hst : Cond.static Lib.Math.abs.name ∈ wt) (hini : Cond.initialized "java/lang/Math" ∈ wt) (hcd : Cond.code Lib.Math.abs.name Lib.Math.abs.code 1 (some .int) ∈ wt) (hr : (st.map fun v => v.category).sum ≤ 8) (hR : 1 ≤ rm.frames ∧ 21 ≤ rm.locals) (hk : kc ≤ rm.cells ∧ ks ≤ rm.slots) (hd : decode M.2.1 pc = .ok (.invokestatic index, 3))
    (k : AW M rm l g x0 o1 x1 kc ks x (pc + 3) lv (.int (x_abs a) :: st)) : AW M rm l g x0 o1 x1 kc ks x pc lv (.int a :: st) := fun p e s m args below meth c B H locs ls hH hl =>
  va_mabs B.1 B.2.1 (B.2.2.1.trans hl.1.symm) B.2.2.2.2.2.1 (B.2.2.2.2.2.2.1 _ hl0) (B.2.2.2.2.2.2.1 _ hst) (B.2.2.2.2.2.2.1 _ hini) (B.2.2.2.2.2.2.1 _ hcd) hR.1 (by have := hR.2; omega) hk.1 hk.2 hd (k p e s m args below meth c B H locs ls hH hl)
end AUX
abbrev cJ_bitCount : ByteArray := prog_16_method_50_code
def yJ_bitCount : MethodName := ⟨"java/lang/Long", "bitCount", "(J)I"⟩
theorem dJ_bitCount_0 : decode cJ_bitCount 0 = .ok (.lload_n 0, 1) := by decide +kernel
theorem dJ_bitCount_1 : decode cJ_bitCount 1 = .ok (.lload_n 0, 1) := by decide +kernel
theorem dJ_bitCount_2 : decode cJ_bitCount 2 = .ok (.iconst 1, 1) := by decide +kernel
theorem dJ_bitCount_3 : decode cJ_bitCount 3 = .ok (.lushr, 1) := by decide +kernel
theorem dJ_bitCount_4 : decode cJ_bitCount 4 = .ok (.ldc2_w 314, 3) := by decide +kernel
theorem dJ_bitCount_7 : decode cJ_bitCount 7 = .ok (.land, 1) := by decide +kernel
theorem dJ_bitCount_8 : decode cJ_bitCount 8 = .ok (.lsub, 1) := by decide +kernel
theorem dJ_bitCount_9 : decode cJ_bitCount 9 = .ok (.lstore_n 0, 1) := by decide +kernel
theorem dJ_bitCount_10 : decode cJ_bitCount 10 = .ok (.lload_n 0, 1) := by decide +kernel
theorem dJ_bitCount_11 : decode cJ_bitCount 11 = .ok (.ldc2_w 316, 3) := by decide +kernel
theorem dJ_bitCount_14 : decode cJ_bitCount 14 = .ok (.land, 1) := by decide +kernel
theorem dJ_bitCount_15 : decode cJ_bitCount 15 = .ok (.lload_n 0, 1) := by decide +kernel
theorem dJ_bitCount_16 : decode cJ_bitCount 16 = .ok (.iconst 2, 1) := by decide +kernel
theorem dJ_bitCount_17 : decode cJ_bitCount 17 = .ok (.lushr, 1) := by decide +kernel
theorem dJ_bitCount_18 : decode cJ_bitCount 18 = .ok (.ldc2_w 316, 3) := by decide +kernel
theorem dJ_bitCount_21 : decode cJ_bitCount 21 = .ok (.land, 1) := by decide +kernel
theorem dJ_bitCount_22 : decode cJ_bitCount 22 = .ok (.ladd, 1) := by decide +kernel
theorem dJ_bitCount_23 : decode cJ_bitCount 23 = .ok (.lstore_n 0, 1) := by decide +kernel
theorem dJ_bitCount_24 : decode cJ_bitCount 24 = .ok (.lload_n 0, 1) := by decide +kernel
theorem dJ_bitCount_25 : decode cJ_bitCount 25 = .ok (.lload_n 0, 1) := by decide +kernel
theorem dJ_bitCount_26 : decode cJ_bitCount 26 = .ok (.iconst 4, 1) := by decide +kernel
theorem dJ_bitCount_27 : decode cJ_bitCount 27 = .ok (.lushr, 1) := by decide +kernel
theorem dJ_bitCount_28 : decode cJ_bitCount 28 = .ok (.ladd, 1) := by decide +kernel
theorem dJ_bitCount_29 : decode cJ_bitCount 29 = .ok (.ldc2_w 318, 3) := by decide +kernel
theorem dJ_bitCount_32 : decode cJ_bitCount 32 = .ok (.land, 1) := by decide +kernel
theorem dJ_bitCount_33 : decode cJ_bitCount 33 = .ok (.lstore_n 0, 1) := by decide +kernel
theorem dJ_bitCount_34 : decode cJ_bitCount 34 = .ok (.lload_n 0, 1) := by decide +kernel
theorem dJ_bitCount_35 : decode cJ_bitCount 35 = .ok (.lload_n 0, 1) := by decide +kernel
theorem dJ_bitCount_36 : decode cJ_bitCount 36 = .ok (.bipush 8, 2) := by decide +kernel
theorem dJ_bitCount_38 : decode cJ_bitCount 38 = .ok (.lushr, 1) := by decide +kernel
theorem dJ_bitCount_39 : decode cJ_bitCount 39 = .ok (.ladd, 1) := by decide +kernel
theorem dJ_bitCount_40 : decode cJ_bitCount 40 = .ok (.lstore_n 0, 1) := by decide +kernel
theorem dJ_bitCount_41 : decode cJ_bitCount 41 = .ok (.lload_n 0, 1) := by decide +kernel
theorem dJ_bitCount_42 : decode cJ_bitCount 42 = .ok (.lload_n 0, 1) := by decide +kernel
theorem dJ_bitCount_43 : decode cJ_bitCount 43 = .ok (.bipush 16, 2) := by decide +kernel
theorem dJ_bitCount_45 : decode cJ_bitCount 45 = .ok (.lushr, 1) := by decide +kernel
theorem dJ_bitCount_46 : decode cJ_bitCount 46 = .ok (.ladd, 1) := by decide +kernel
theorem dJ_bitCount_47 : decode cJ_bitCount 47 = .ok (.lstore_n 0, 1) := by decide +kernel
theorem dJ_bitCount_48 : decode cJ_bitCount 48 = .ok (.lload_n 0, 1) := by decide +kernel
theorem dJ_bitCount_49 : decode cJ_bitCount 49 = .ok (.lload_n 0, 1) := by decide +kernel
theorem dJ_bitCount_50 : decode cJ_bitCount 50 = .ok (.bipush 32, 2) := by decide +kernel
theorem dJ_bitCount_52 : decode cJ_bitCount 52 = .ok (.lushr, 1) := by decide +kernel
theorem dJ_bitCount_53 : decode cJ_bitCount 53 = .ok (.ladd, 1) := by decide +kernel
theorem dJ_bitCount_54 : decode cJ_bitCount 54 = .ok (.lstore_n 0, 1) := by decide +kernel
theorem dJ_bitCount_55 : decode cJ_bitCount 55 = .ok (.lload_n 0, 1) := by decide +kernel
theorem dJ_bitCount_56 : decode cJ_bitCount 56 = .ok (.l2i, 1) := by decide +kernel
theorem dJ_bitCount_57 : decode cJ_bitCount 57 = .ok (.bipush 127, 2) := by decide +kernel
theorem dJ_bitCount_59 : decode cJ_bitCount 59 = .ok (.iand, 1) := by decide +kernel
theorem dJ_bitCount_60 : decode cJ_bitCount 60 = .ok (.ireturn, 1) := by decide +kernel
abbrev MJ_bitCount : xM := ("java/lang/Long", cJ_bitCount, 2, (some .int), "bitCount")
abbrev rmJ_bitCount : Room := { frames := 0, cells := 0, slots := 0, locals := 0 }
theorem ciJ_bitCount : Cond.code yJ_bitCount cJ_bitCount 2 (some .int) ∈ wt ∧ Cond.initialized yJ_bitCount.cls ∈ wt ∧ (yJ_bitCount.cls ≠ "java/lang/invoke/MethodHandle" ∧ yJ_bitCount.cls ≠ "java/lang/invoke/VarHandle" ∧ (parseMethodDescriptor yJ_bitCount.desc).map (fun d => d.parameters.length) = some 1) := ⟨wl2 (i := 121) rfl rfl, wl1 (i := 10) rfl rfl, by decide +kernel, by decide +kernel, by decide +kernel⟩
def fJ_bitCount_55 (a0 : Int64) : Option (Int32) :=
  some (((a0).toInt32) &&& (127 : Int32))
set_option maxHeartbeats 4000000 in
set_option maxRecDepth 100000 in
theorem wkJ_bitCount_55 {l : Launch} {g : xG} {x0 : xV} {x : xV} (hl : l.stackTraces = false) {r : Int32} (a0 : Int64) (hf : fJ_bitCount_55 a0 = some r) : AW MJ_bitCount rmJ_bitCount l g x0 (.inl (some (.int r))) x 0 0 x 55 [(0, .long a0)] [] := by
  rw [fJ_bitCount_55] at hf
  refine aw_lload_n 0 dJ_bitCount_55 rfl ?_
  refine aw_l2i dJ_bitCount_56 ?_
  refine aw_bipush (127 : Int32) dJ_bitCount_57 (by decide) ?_
  refine aw_iand dJ_bitCount_59 ?_
  cases hf
  exact aw_iret dJ_bitCount_60 rfl rfl rfl ⟨Nat.le_of_ble_eq_true rfl, Nat.le_of_ble_eq_true rfl⟩
def fJ_bitCount_48 (a0 : Int64) : Option (Int32) :=
  fJ_bitCount_55 (a0 + (x_ushr a0 (32 : Int32)))
set_option maxHeartbeats 4000000 in
set_option maxRecDepth 100000 in
theorem wkJ_bitCount_48 {l : Launch} {g : xG} {x0 : xV} {x : xV} (hl : l.stackTraces = false) {r : Int32} (a0 : Int64) (hf : fJ_bitCount_48 a0 = some r) : AW MJ_bitCount rmJ_bitCount l g x0 (.inl (some (.int r))) x 0 0 x 48 [(0, .long a0)] [] := by
  rw [fJ_bitCount_48] at hf
  refine aw_lload_n 0 dJ_bitCount_48 rfl ?_
  refine aw_lload_n 0 dJ_bitCount_49 rfl ?_
  refine aw_bipush (32 : Int32) dJ_bitCount_50 (by decide) ?_
  refine aw_lushr dJ_bitCount_52 ?_
  refine aw_ladd dJ_bitCount_53 ?_
  refine aw_lstore_n [(0, .long (a0 + (x_ushr a0 (32 : Int32))))] dJ_bitCount_54 rfl (by decide) rfl ?_
  refine aw_lv [0] rfl ?_
  exact wkJ_bitCount_55 hl _ hf
def fJ_bitCount_41 (a0 : Int64) : Option (Int32) :=
  fJ_bitCount_48 (a0 + (x_ushr a0 (16 : Int32)))
set_option maxHeartbeats 4000000 in
set_option maxRecDepth 100000 in
theorem wkJ_bitCount_41 {l : Launch} {g : xG} {x0 : xV} {x : xV} (hl : l.stackTraces = false) {r : Int32} (a0 : Int64) (hf : fJ_bitCount_41 a0 = some r) : AW MJ_bitCount rmJ_bitCount l g x0 (.inl (some (.int r))) x 0 0 x 41 [(0, .long a0)] [] := by
  rw [fJ_bitCount_41] at hf
  refine aw_lload_n 0 dJ_bitCount_41 rfl ?_
  refine aw_lload_n 0 dJ_bitCount_42 rfl ?_
  refine aw_bipush (16 : Int32) dJ_bitCount_43 (by decide) ?_
  refine aw_lushr dJ_bitCount_45 ?_
  refine aw_ladd dJ_bitCount_46 ?_
  refine aw_lstore_n [(0, .long (a0 + (x_ushr a0 (16 : Int32))))] dJ_bitCount_47 rfl (by decide) rfl ?_
  refine aw_lv [0] rfl ?_
  exact wkJ_bitCount_48 hl _ hf
def fJ_bitCount_34 (a0 : Int64) : Option (Int32) :=
  fJ_bitCount_41 (a0 + (x_ushr a0 (8 : Int32)))
set_option maxHeartbeats 4000000 in
set_option maxRecDepth 100000 in
theorem wkJ_bitCount_34 {l : Launch} {g : xG} {x0 : xV} {x : xV} (hl : l.stackTraces = false) {r : Int32} (a0 : Int64) (hf : fJ_bitCount_34 a0 = some r) : AW MJ_bitCount rmJ_bitCount l g x0 (.inl (some (.int r))) x 0 0 x 34 [(0, .long a0)] [] := by
  rw [fJ_bitCount_34] at hf
  refine aw_lload_n 0 dJ_bitCount_34 rfl ?_
  refine aw_lload_n 0 dJ_bitCount_35 rfl ?_
  refine aw_bipush (8 : Int32) dJ_bitCount_36 (by decide) ?_
  refine aw_lushr dJ_bitCount_38 ?_
  refine aw_ladd dJ_bitCount_39 ?_
  refine aw_lstore_n [(0, .long (a0 + (x_ushr a0 (8 : Int32))))] dJ_bitCount_40 rfl (by decide) rfl ?_
  refine aw_lv [0] rfl ?_
  exact wkJ_bitCount_41 hl _ hf
def fJ_bitCount_24 (a0 : Int64) : Option (Int32) :=
  fJ_bitCount_34 ((a0 + (x_ushr a0 (4 : Int32))) &&& (1085102592571150095 : Int64))
set_option maxHeartbeats 4000000 in
set_option maxRecDepth 100000 in
theorem wkJ_bitCount_24 {l : Launch} {g : xG} {x0 : xV} {x : xV} (hl : l.stackTraces = false) {r : Int32} (a0 : Int64) (hf : fJ_bitCount_24 a0 = some r) : AW MJ_bitCount rmJ_bitCount l g x0 (.inl (some (.int r))) x 0 0 x 24 [(0, .long a0)] [] := by
  rw [fJ_bitCount_24] at hf
  refine aw_lload_n 0 dJ_bitCount_24 rfl ?_
  refine aw_lload_n 0 dJ_bitCount_25 rfl ?_
  refine aw_iconst (4 : Int32) dJ_bitCount_26 (by decide) ?_
  refine aw_lushr dJ_bitCount_27 ?_
  refine aw_ladd dJ_bitCount_28 ?_
  refine aw_ldc2 (1085102592571150095 : Int64) rfl (wl2 (i := 124) rfl rfl) dJ_bitCount_29 ?_
  refine aw_land dJ_bitCount_32 ?_
  refine aw_lstore_n [(0, .long ((a0 + (x_ushr a0 (4 : Int32))) &&& (1085102592571150095 : Int64)))] dJ_bitCount_33 rfl (by decide) rfl ?_
  refine aw_lv [0] rfl ?_
  exact wkJ_bitCount_34 hl _ hf
def fJ_bitCount_10 (a0 : Int64) : Option (Int32) :=
  fJ_bitCount_24 ((a0 &&& (3689348814741910323 : Int64)) + ((x_ushr a0 (2 : Int32)) &&& (3689348814741910323 : Int64)))
set_option maxHeartbeats 4000000 in
set_option maxRecDepth 100000 in
theorem wkJ_bitCount_10 {l : Launch} {g : xG} {x0 : xV} {x : xV} (hl : l.stackTraces = false) {r : Int32} (a0 : Int64) (hf : fJ_bitCount_10 a0 = some r) : AW MJ_bitCount rmJ_bitCount l g x0 (.inl (some (.int r))) x 0 0 x 10 [(0, .long a0)] [] := by
  rw [fJ_bitCount_10] at hf
  refine aw_lload_n 0 dJ_bitCount_10 rfl ?_
  refine aw_ldc2 (3689348814741910323 : Int64) rfl (wl2 (i := 123) rfl rfl) dJ_bitCount_11 ?_
  refine aw_land dJ_bitCount_14 ?_
  refine aw_lload_n 0 dJ_bitCount_15 rfl ?_
  refine aw_iconst (2 : Int32) dJ_bitCount_16 (by decide) ?_
  refine aw_lushr dJ_bitCount_17 ?_
  refine aw_ldc2 (3689348814741910323 : Int64) rfl (wl2 (i := 123) rfl rfl) dJ_bitCount_18 ?_
  refine aw_land dJ_bitCount_21 ?_
  refine aw_ladd dJ_bitCount_22 ?_
  refine aw_lstore_n [(0, .long ((a0 &&& (3689348814741910323 : Int64)) + ((x_ushr a0 (2 : Int32)) &&& (3689348814741910323 : Int64))))] dJ_bitCount_23 rfl (by decide) rfl ?_
  refine aw_lv [0] rfl ?_
  exact wkJ_bitCount_24 hl _ hf
def fJ_bitCount (a0 : Int64) : Option (Int32) :=
  fJ_bitCount_10 (a0 - ((x_ushr a0 (1 : Int32)) &&& (6148914691236517205 : Int64)))
set_option maxHeartbeats 4000000 in
set_option maxRecDepth 100000 in
theorem ctJ_bitCount {l : Launch} {g : xG} {x : xV} (hl : l.stackTraces = false) {r : Int32} (a0 : Int64) (hf : fJ_bitCount a0 = some r) : CT yJ_bitCount MJ_bitCount rmJ_bitCount l g [.long a0] x (.inl (some (.int r))) x := by
  rw [fJ_bitCount] at hf
  refine CT.of (lv0 := [(0, .long a0)]) (by decide +kernel) rfl rfl (Nat.le_of_ble_eq_true rfl) rfl hl ?_
  refine aw_lload_n 0 dJ_bitCount_0 rfl ?_
  refine aw_lload_n 0 dJ_bitCount_1 rfl ?_
  refine aw_iconst (1 : Int32) dJ_bitCount_2 (by decide) ?_
  refine aw_lushr dJ_bitCount_3 ?_
  refine aw_ldc2 (6148914691236517205 : Int64) rfl (wl2 (i := 122) rfl rfl) dJ_bitCount_4 ?_
  refine aw_land dJ_bitCount_7 ?_
  refine aw_lsub dJ_bitCount_8 ?_
  refine aw_lstore_n [(0, .long (a0 - ((x_ushr a0 (1 : Int32)) &&& (6148914691236517205 : Int64))))] dJ_bitCount_9 rfl (by decide) rfl ?_
  refine aw_lv [0] rfl ?_
  exact wkJ_bitCount_10 hl _ hf
