/-! Exceptions that leave the face's methods. -/
/-- what an instance method with known code says of its declaration -/
theorem declares_of {x : MethodName} {b : ByteArray} {n : Nat} {r : Option FieldType} {args : Array Value} {s : State} (h1 : (Cond.instanceMethod x).before args s = true) (h2 : (Cond.code x b n r).before args s = true) : (Cond.declares x).before args s = true := by
  obtain ⟨m, meth, e1, e2, e3, -⟩ := Cond.instanceMethod_spec h1
  obtain ⟨meth', c, f1, -, -, -, -, -, -, f2⟩ := Cond.code_spec e1 h2
  cases e2.symm.trans f1
  simp [Cond.before, Cond.holds, Cond.value, e1, e2, e3, f2]
def xDcl : List (MethodName × ByteArray) := [(Bundle.initS "java/lang/RuntimeException", Bundle.six), (Bundle.initS "java/lang/Exception", Bundle.six), (Bundle.initS Bundle.tN, LibCode.Throwable.InitS.code)]
theorem xDcl_ok : xDcl.all (fun q => decide (Cond.instanceMethod q.1 ∈ lw_tbl) && decide (Cond.code q.1 q.2 2 none ∈ lw_tbl)) = true := by decide +kernel
theorem xDcl_use {args : Array Value} {s : State} (hts : ∀ w ∈ wt, w.before args s = true) {w : Cond} (h : w ∈ xDcl.map (fun q => Cond.declares q.1)) : w.before args s = true := by
  obtain ⟨q, hq, rfl⟩ := List.mem_map.mp h
  have h1 := List.all_eq_true.mp xDcl_ok q hq
  simp only [Bool.and_eq_true, decide_eq_true_eq] at h1
  exact declares_of (hts _ (w_fil h1.1 rfl)) (hts _ (w_fil h1.2 rfl))
section AWX
variable {M My : xM} {rm rmy : Room} {l : Launch} {g : xG} {x0 : xV} {E : String} {x1 x2 : xV} {kc ks : Nat} {x : xV} {pc : Nat} {lv : List (Nat × Value)} {rest : List Value} {y : MethodName} {index : Nat}
variable {p : Program} {e : Env} {s : State} {m : MethodId} {args : Array Value} {below : List Frame} {meth : Method} {c : Code} {H : Heap} {locs : List Loc} {ls : Array Slot} {Q : State → Prop}
theorem xNoT {l2 : Launch} (B : xB M l2 g x0 (.inr E) p s m args meth c) (pc : Nat) : ∀ y ∈ c.exceptionTable.toList, covers y pc = false := fun y hy => (B.2.2.2.2.2.2.2.2.2.2.2.1 E rfl y hy).elim
theorem xThrown (B : xB M l g x0 (.inr E) p s m args meth c) (hH : xH g x0 x s H locs) {g0 : JFrame} {Qc : State → Outcome → State → Prop} (hg : g0 = F0 m pc ls g0.stack) (hr : vx_Run p l e rm s m args below meth c H locs kc ks rmy.cells rmy.slots g0 rest (fun _ _ _ => False) (xX g x E x2) (xF x)) (hc : kc + rmy.cells ≤ rm.cells ∧ ks + rmy.slots ≤ rm.slots) :
    W p l e rm s m args below meth c H locs kc ks (xZ rm g x0 (.inr E) x2 below args s) g0 := by
  intro T hT X
  rcases hr T hT X with ⟨v, st₀, t, T', L, e0, X', hL, e1, e2, hq, st⟩ | ⟨q, st₀, t, T', L, E', ce, e0, X', hL, e1, e2, ⟨rfl, ⟨z, hz1, hP⟩, hD, hF⟩, hce, hcv, hcl, st⟩
  · exact hq.elim
  · have h0 := B.2.2.2.2.2.2.2.2.1
    have hz := hH.size h0
    have hup := xF.up hH.2.1 hz
    rw [va_F, e0] at hF
    have hS : va_S (xF x0) s.heap T'.heap (locs ++ L) := by
      refine ⟨?_, ?_, ?_⟩
      · rw [e1]; exact Nat.le_trans hH.2.2.1 hF.1
      · intro q h1 h2
        rw [e1, hF.2 q (Nat.lt_of_lt_of_le h1 hH.2.2.1) (fun z => h2 (hup q z))]
        exact hH.2.2.2.1 q h1 h2
      · intro q hq
        rcases List.mem_append.mp hq with h | h
        · exact hH.2.2.2.2 q h
        · exact hup _ (hL q h)
    rw [hg] at st
    obtain ⟨t2, a1, b1⟩ := vx_out (e := e) (args := args) (Qc := fun _ _ _ _ => False) (XC := xX g x0 E' x2) (free := xF x0) (rest := rest) (ls := ls) (pc := pc) (mc := rm.cells) (ms := rm.slots) (xNoT B pc) B.2.2.2.2.1 (H := T'.heap) (by rw [e1]; exact hce) hcv hcl (fun t' ht' ha => ⟨rfl, ⟨z, hz1, by rw [ht', e1]; exact hP⟩, hH.2.1.trans hD hz, hS.F ht'⟩) hS.2.2 hc.1 hc.2 T' rfl X'
    rw [hg]
    exact ⟨t2, st.trans a1, b1⟩
/-- a static call that throws: nothing here catches it -/
theorem aw_thrS (av : List Value) (n : Nat) (hc : CT y My rmy l g av x (.inr E) x2) (hw : xCall M My rm rmy y index n) (hst : Cond.static y ∈ wt) (hd : decode M.2.1 pc = .ok (.invokestatic index, 3)) {st : List Value} (hs : st = av.reverse ++ rest) (hn : av.length = n) (hr : (rest.map fun v => v.category).sum ≤ 8) (hR : rmy.frames + 1 ≤ rm.frames ∧ 8 + (My.2.2.1 + 11) + rmy.locals ≤ rm.locals) (hf : kc + rmy.cells ≤ rm.cells ∧ ks + rmy.slots ≤ rm.slots) : AW M rm l g x0 (.inr E) x2 kc ks x pc lv st := fun p e s m args below meth c B H locs ls hH hl =>
  xThrown (pc := pc) (ls := ls) (Qc := fun _ _ _ => False) B hH rfl (vx_runS (As := av) (rest := rest) (xFix B) hc ⟨xCallB B hw hR, B.2.2.2.2.2.2.1 _ hst⟩ ⟨xPc.blind, xPc.at B hH av⟩ rfl hn hl.1 hs (lv_room hr) hd hf) hf
theorem aw_thrV (ci : Nat) (r : Option Nat) (av : List Value) (n : Nat) {a : Nat} {fs : List Value} (hra : r = some a) (ha : x.2 a = some (.inr (ci, fs))) {q : vw_C} (hq : vwCl[ci]? = some q) (hqc : q.1 = y.cls) (hc : CT y My rmy l g (va_rf (some a) :: av) x (.inr E) x2) (hw : xCall M My rm rmy y index n) (hin : Cond.instanceMethod y ∈ wt) (hse : Cond.selects y.cls y y ∈ wt) (hd : decode M.2.1 pc = .ok (.invokevirtual index, 3)) {st : List Value} (hs : st = av.reverse ++ va_rf r :: rest) (hn : av.length = n) (hr : (rest.map fun v => v.category).sum ≤ 8) (hR : rmy.frames + 1 ≤ rm.frames ∧ 8 + (My.2.2.1 + 11) + rmy.locals ≤ rm.locals) (hf : kc + rmy.cells ≤ rm.cells ∧ ks + rmy.slots ≤ rm.slots) : AW M rm l g x0 (.inr E) x2 kc ks x pc lv st := fun p e s m args below meth c B H locs ls hH hl => by
  subst hra
  exact xThrown (pc := pc) (ls := ls) (Qc := fun _ _ _ => False) B hH rfl (vx_runV (As := av) (rest := rest) (C := y.cls) (b := a) (xFix B) hc ⟨xCallB B hw hR, B.2.2.2.2.2.2.1 _ hin, B.2.2.2.2.2.2.1 _ hse⟩ ⟨xPc.blind, by rw [← hqc]; exact xRecv B hH ha hq, xPc.at B hH (.ref a :: av)⟩ rfl hn hl.1 hs (lv_room hr) hd hf) hf
/-- a throw of its own: new, dup, ldc, <init>, athrow -/
theorem aw_throw {own cls text : String} {names : List String} {ik is ic : Nat} (ho : own = M.1) (hcls : Bundle.fit cls = true) (hnames : ∀ n ∈ names, Bundle.fit n = true) (hk : Cond.classLink own ik cls ∈ wt) (hini : Cond.initialized cls ∈ wt) (hstr : Cond.stringRef own is text ∈ lw_tbl) (hat : ∀ w ∈ vx_atS own ic cls names, (w ∈ wt ∨ (w ∈ lw_tbl ∧ xNk w = true)) ∨ w ∈ xDcl.map (fun q => Cond.declares q.1)) (hgood : ∀ w ∈ Cond.classLink own ik cls :: Cond.initialized cls :: vx_atS own ic cls names, vx_ot w = true)
    (d0 : decode M.2.1 pc = .ok (.new ik, 3)) (d3 : decode M.2.1 (pc + 3) = .ok (.dup, 1)) (d4 : decode M.2.1 (pc + 4) = .ok (.ldc is, 2)) (d6 : decode M.2.1 (pc + 6) = .ok (.invokespecial ic, 3)) (d9 : decode M.2.1 (pc + 9) = .ok (.athrow, 1)) {st : List Value} (hr : (st.map fun v => v.category).sum ≤ 8) (hR : names.length + 3 < rm.frames ∧ 8 + (13 * (names.length + 1) + 43) ≤ rm.locals) (hf : kc + 1 ≤ rm.cells ∧ ks + 6 ≤ rm.slots) : AW M rm l g x0 (.inr cls) x kc ks x pc lv st := fun p e s m args below meth c B H locs ls hH hl => by
  have hts := B.2.2.2.2.2.2.1
  have hI := B.2.2.2.2.2.2.2.2.2.2.1.1
  have hJ := B.2.2.2.2.2.2.2.2.2.2.1.2
  obtain ⟨sa, hsa⟩ := hI.2.2.2.2.2 own is text hstr
  have h8 : (st.map fun v => v.category).sum + (13 * (names.length + 1) + 43) ≤ rm.locals := by have := hR.2; omega
  exact vx_throwS (Qc := fun _ _ _ _ => False) (XC := xX g x0 cls x) (free := xF x0) B.1 B.2.1 B.2.2.2.2.2.2.2.2.2.2.2.2 (by rw [ho]; exact B.2.2.2.2.2.1) hcls hnames (hts _ hk) (hts _ hini) hsa (fun w h => (hat w h).elim (fun h => h.elim (hts w) (fun h2 => by have h3 := hJ w h2.1 h2.2; cases w <;> first | exact va_Nw.use rfl h3 | (simp [xNk] at h2; done))) (fun h => xDcl_use hts h)) hgood hI.2.2.2.1 hI.2.2.2.2.1 hH.2.2 (hl.1.trans B.2.2.1.symm) d0 d3 d4 d6 d9 (xNoT B (pc + 9)) hR.1 h8 hf.1 hf.2 B.2.2.2.2.1
    (fun t ha hz ho => ⟨rfl, ⟨t.heap.size, by rw [← hH.1.1]; exact hz, rfl, fun a e h => (hH.1.2 a e h).kept (ho a (hH.1.lt (by rw [h]; exact fun z => by cases z)))⟩, hH.2.1, ⟨Nat.le_trans hH.2.2.1 hz, fun q h1 h2 => (ho q (Nat.lt_of_lt_of_le h1 hH.2.2.1)).trans (hH.2.2.2.1 q h1 h2)⟩⟩) hH.2.2.2.2 hf.1 hf.2
end AWX
def xRTE : List String := ["java/lang/RuntimeException", "java/lang/Exception"]
theorem xRTE_fit : ∀ n ∈ xRTE, Bundle.fit n = true := by decide +kernel
theorem xAt {own cls : String} {ic : Nat} {names : List String} (h : (vx_atS own ic cls names).all (fun w => (decide (w ∈ lw_tbl) && (goodWord w || xNk w)) || decide (w ∈ xDcl.map (fun q => Cond.declares q.1))) = true) : ∀ w ∈ vx_atS own ic cls names, (w ∈ wt ∨ (w ∈ lw_tbl ∧ xNk w = true)) ∨ w ∈ xDcl.map (fun q => Cond.declares q.1) := fun w hw => by
  have h2 := List.all_eq_true.mp h w hw
  simp only [Bool.and_eq_true, Bool.or_eq_true, decide_eq_true_eq] at h2
  exact h2.elim (fun h2 => Or.inl (h2.2.elim (fun g => Or.inl (w_fil h2.1 g)) (fun g => Or.inr ⟨h2.1, g⟩))) Or.inr
theorem xAt_54 : ∀ w ∈ vx_atS RX8 54 "java/lang/IllegalArgumentException" xRTE, (w ∈ wt ∨ (w ∈ lw_tbl ∧ xNk w = true)) ∨ w ∈ xDcl.map (fun q => Cond.declares q.1) := xAt (by decide +kernel)
theorem xGd_54 : ∀ w ∈ Cond.classLink RX8 50 "java/lang/IllegalArgumentException" :: Cond.initialized "java/lang/IllegalArgumentException" :: vx_atS RX8 54 "java/lang/IllegalArgumentException" xRTE, vx_ot w = true := by decide +kernel
theorem xAt_35 : ∀ w ∈ vx_atS RX8 35 "java/lang/IllegalStateException" xRTE, (w ∈ wt ∨ (w ∈ lw_tbl ∧ xNk w = true)) ∨ w ∈ xDcl.map (fun q => Cond.declares q.1) := xAt (by decide +kernel)
theorem xGd_35 : ∀ w ∈ Cond.classLink RX8 31 "java/lang/IllegalStateException" :: Cond.initialized "java/lang/IllegalStateException" :: vx_atS RX8 35 "java/lang/IllegalStateException" xRTE, vx_ot w = true := by decide +kernel
theorem xAt_127 : ∀ w ∈ vx_atS RX8 127 "java/lang/IndexOutOfBoundsException" xRTE, (w ∈ wt ∨ (w ∈ lw_tbl ∧ xNk w = true)) ∨ w ∈ xDcl.map (fun q => Cond.declares q.1) := xAt (by decide +kernel)
theorem xGd_127 : ∀ w ∈ Cond.classLink RX8 123 "java/lang/IndexOutOfBoundsException" :: Cond.initialized "java/lang/IndexOutOfBoundsException" :: vx_atS RX8 127 "java/lang/IndexOutOfBoundsException" xRTE, vx_ot w = true := by decide +kernel
