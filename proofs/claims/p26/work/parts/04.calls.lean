/-! What a world brings along to a callee, and the rows of calls. -/
theorem xF.up {x0 x : xV} (hD : xD x0 x) (hz : x0.1 ≤ x.1) : ∀ q, xF x q → xF x0 q := fun q h => h.elim (hD q) (fun h => Or.inr (Nat.le_trans hz h))
theorem xP.lt {g : xG} {x : xV} {H : Heap} (h : xP g x H) {a : Nat} (ha : x.2 a ≠ none) : a < H.size := by
  cases he : x.2 a with
  | none => exact absurd he ha
  | some e => exact (h.2 a e he).lt
theorem xH.size {g : xG} {x0 x : xV} {s : State} {H : Heap} {locs : List Loc} (h : xH g x0 x s H locs) (h0 : s.heap.size = x0.1) : x0.1 ≤ x.1 := by rw [← h0, ← h.1.1]; exact h.2.2.1
theorem va_T.kept0 {ty : FieldType} {t N : Nat} {f : Nat → Value} {A : Nat → Prop} {U : State} {H H1 : Heap} (h : va_T ty t N f A U H) (hq : ∀ a : Nat, a < H.size → ¬ A a → H1[a]? = H[a]?) : va_T ty t N f A U H1 := va_T.kept h hq
theorem xI.go {x0 x : xV} {s U : State} {H H1 : Heap} (h : xI x0 s H) (hW : s.WarmedH U.vm) (hq : ∀ a : Nat, a < H.size → ¬ xF x0 a → H1[a]? = H[a]?) (hF : ∀ q, xF x q → xF x0 q) : xI x U H1 := by
  obtain ⟨⟨t, h1, h2⟩, h3, h4, h5, h6, h7⟩ := h
  have ha := hW.alike
  exact ⟨⟨t, ((h1.moved ha).kept hq).narrow hF, ((h2.moved ha).kept hq).narrow hF⟩, h3.moved ha, h4.moved ha, ((h5.moved ha).kept hq).narrow hF, ((h6.moved ha).kept hq).narrow hF, fun own k tx hk => by
    obtain ⟨a, h8⟩ := h7 own k tx hk
    exact ⟨a, h8.warm hW⟩⟩
theorem xJ.go {s U : State} (h : xJ s) (hW : s.WarmedH U.vm) : xJ U := fun w hw hk => by
  have h1 := h w hw hk
  cases w <;> first | exact h1.warmF hW | exact h1.warmM hW | exact h1.warmC hW | (simp [xNk] at hk; done)
theorem xJ.same {U V : State} (h : xJ U) (hv : V.vm = U.vm) : xJ V := fun w hw hk => by
  have h1 := h w hw hk
  cases w <;> first | exact h1.same rfl hv.symm | (simp [xNk] at hk; done)
theorem xI.same {x : xV} {U V : State} (h : xI x U U.heap) (hv : V.vm = U.vm) (hh : V.heap = U.heap) : xI x V V.heap := by
  obtain ⟨⟨t, h1, h2⟩, h3, h4, h5, h6, h7⟩ := h
  have ha : U.vm.Alike V.vm := by rw [hv]; exact Vm.Alike.refl _
  rw [hh]
  exact ⟨⟨t, h1.moved ha, h2.moved ha⟩, h3.moved ha, h4.moved ha, h5.moved ha, h6.moved ha, fun own k tx hk => by
    obtain ⟨a, h8⟩ := h7 own k tx hk
    exact ⟨a, h8.same hv⟩⟩
theorem xPc.blind {g : xG} {x : xV} {av : List Value} : FrameBlind (va_Pc av (xPc g x)) := by
  intro a U f mk h
  obtain ⟨h1, h2, h3, h4, h5⟩ := h
  exact ⟨h1, h2, va_K.moved (u := U) (U := U.calling f mk a) (Vm.Alike.refl U.vm) h3, h4.same rfl rfl, h5.same rfl⟩
theorem xPc.at {M : xM} {l : Launch} {g : xG} {x0 x : xV} {o1 : Option Value ⊕ String} {p : Program} {s : State} {m : MethodId} {args : Array Value} {meth : Method} {c : Code} {H : Heap} {locs : List Loc} (B : xB M l g x0 o1 p s m args meth c) (hH : xH g x0 x s H locs) (av : List Value) : ∀ U : State, U.heap = H → s.WarmedH U.vm → va_Pc av (xPc g x) av.toArray U := by
  intro U hU hW
  refine ⟨rfl, by rw [hU]; exact hH.1, va_K.moved hW.alike B.2.2.2.2.2.2.2.1, ?_⟩
  rw [hU]
  exact ⟨xI.go B.2.2.2.2.2.2.2.2.2.2.1.1 hW (fun a h1 h2 => hH.2.2.2.1 a h1 h2) (xF.up hH.2.1 (hH.size B.2.2.2.2.2.2.2.2.1)), B.2.2.2.2.2.2.2.2.2.2.1.2.go hW⟩
theorem wt_in {y : MethodName} {b : ByteArray} {n : Nat} {r : Option FieldType} (h : Cond.code y b n r ∈ wt) : GoodIn wt (.code y b n r :: wt) := fun w hw => (List.mem_cons.mp hw).elim (fun e => by subst e; exact ⟨h, wt_good _ h⟩) (fun h => ⟨h, wt_good _ h⟩)
theorem cat_q (r : Option Nat) : (va_rf r).category = 1 := by cases r <;> rfl
theorem cat_i (a : Int32) : (Value.int a).category = 1 := rfl
theorem cat_l (a : Int64) : (Value.long a).category = 2 := rfl
theorem cat_r (a : Nat) : (Value.ref a).category = 1 := rfl
theorem xD.trans {x0 x x2 : xV} (h1 : xD x0 x) (h2 : xD x x2) (hz : x0.1 ≤ x.1) : xD x0 x2 := fun a h => xF.up h1 hz a (h2 a h)
section AWC
variable {M My : xM} {rm rmy : Room} {l : Launch} {g : xG} {x0 : xV} {o1 : Option Value ⊕ String} {x1 x2 : xV} {kc ks : Nat} {x : xV} {pc : Nat} {lv : List (Nat × Value)} {rest : List Value} {y : MethodName} {index : Nat} {v : Option Value}
variable {p : Program} {e : Env} {s : State} {m : MethodId} {args : Array Value} {below : List Frame} {meth : Method} {c : Code} {H : Heap} {locs : List Loc} {ls : Array Slot} {Q : State → Prop}
/-- behind a call that returned -/
theorem xRun {g0 : JFrame} (hr : va_Run p l e rm s m args below meth c H locs kc ks rmy.cells rmy.slots g0 rest ((xQ g x v x2) args) (xF x)) (h0 : s.heap.size = x0.1) (hH : xH g x0 x s H locs)
    (k : ∀ (H1 : Heap) (locs1 : List Loc), xH g x0 x2 s H1 locs1 → W p l e rm s m args below meth c H1 locs1 (kc + rmy.cells) (ks + rmy.slots) Q { g0 with pc := g0.pc + 3, stack := v.toList ++ rest }) : W p l e rm s m args below meth c H locs kc ks Q g0 := by
  intro T hT X
  obtain ⟨v', st₀, t, T', L, e0, X', hL, e1, e2, ⟨hv, hP, hD, hF⟩, st⟩ := hr T hT X
  cases hv
  have hz := hH.size h0
  have hup := xF.up hH.2.1 hz
  rw [va_F, e0] at hF
  have hH1 : xH g x0 x2 s T'.heap (locs ++ L) := by
    refine ⟨by rw [e1]; exact hP, hH.2.1.trans hD hz, ?_, ?_, ?_⟩
    · rw [e1]; exact Nat.le_trans hH.2.2.1 hF.1
    · intro q h1 h2
      rw [e1, hF.2 q (Nat.lt_of_lt_of_le h1 hH.2.2.1) (fun z => h2 (hup q z))]
      exact hH.2.2.2.1 q h1 h2
    · intro q hq
      rcases List.mem_append.mp hq with h | h
      · exact hH.2.2.2.2 q h
      · exact hup _ (hL q h)
  obtain ⟨t2, a1, b1⟩ := k T'.heap (locs ++ L) hH1 T' rfl X'
  exact ⟨t2, st t2 a1, b1⟩
/-- what a call needs of the tables and the room, in one -/
abbrev xCall (M My : xM) (rm rmy : Room) (y : MethodName) (index n : Nat) : Prop := Cond.methodLink M.1 index y ∈ wt ∧ Cond.code y My.2.1 My.2.2.1 My.2.2.2.1 ∈ wt ∧ Cond.initialized y.cls ∈ wt ∧ (y.cls ≠ "java/lang/invoke/MethodHandle" ∧ y.cls ≠ "java/lang/invoke/VarHandle" ∧ (parseMethodDescriptor y.desc).map (fun d => d.parameters.length) = some n)
theorem xCallB (B : xB M l g x0 o1 p s m args meth c) {n : Nat} (hc : xCall M My rm rmy y index n) (hR : rmy.frames + 1 ≤ rm.frames ∧ 8 + (My.2.2.1 + 11) + rmy.locals ≤ rm.locals) : CallB rm s args M.1 index y My.2.1 My.2.2.1 My.2.2.2.1 (.code y My.2.1 My.2.2.1 My.2.2.2.1 :: wt) rmy rmy.cells rmy.slots n :=
  callB_of n (Ts := wt) (ws' := wt) B.2.2.2.2.2.2.1 (wt_in hc.2.1) rfl rfl rfl (B.2.2.2.2.2.2.1 _ hc.2.2.1) (B.2.2.2.2.2.2.1 _ hc.1) hc.2.2.2 hR
theorem xFix (B : xB M l g x0 o1 p s m args meth c) : CallFix p m c M.2.1 M.2.2.1 s args wt M.1 := ⟨B.1, B.2.1, B.2.2.1, B.2.2.2.2.2.1, B.2.2.2.2.2.2.1⟩
theorem aw_callS (av : List Value) (n : Nat) (hc : CT y My rmy l g av x (.inl v) x2) (hw : xCall M My rm rmy y index n) (hst : Cond.static y ∈ wt) (hd : decode M.2.1 pc = .ok (.invokestatic index, 3)) {st : List Value} (hs : st = av.reverse ++ rest) (hn : av.length = n) (hr : (rest.map fun v => v.category).sum ≤ 8) (hR : rmy.frames + 1 ≤ rm.frames ∧ 8 + (My.2.2.1 + 11) + rmy.locals ≤ rm.locals) (hf : kc + rmy.cells ≤ rm.cells ∧ ks + rmy.slots ≤ rm.slots)
    (k : AW M rm l g x0 o1 x1 (kc + rmy.cells) (ks + rmy.slots) x2 (pc + 3) lv (v.toList ++ rest)) : AW M rm l g x0 o1 x1 kc ks x pc lv st := fun p e s m args below meth c B H locs ls hH hl =>
  xRun (va_runS (As := av) (rest := rest) (xFix B) hc ⟨xCallB B hw hR, B.2.2.2.2.2.2.1 _ hst⟩ ⟨xPc.blind, xPc.at B hH av⟩ rfl hn hl.1 hs (lv_room hr) hd hf) B.2.2.2.2.2.2.2.2.1 hH (fun H1 locs1 h1 => k p e s m args below meth c B H1 locs1 ls h1 hl)
theorem xRecv (B : xB M l g x0 o1 p s m args meth c) (hH : xH g x0 x s H locs) {a ci : Nat} {fs : List Value} {q : vw_C} (ha : x.2 a = some (.inr (ci, fs))) (hq : vwCl[ci]? = some q) : ∃ cellB : Cell, H[a]? = some cellB ∧ cellB.vm.isStatics = false ∧ s.vm.findClass q.1 = some cellB.cls :=
  va_recv (ws := [(a, .inr (ci, fs))]) (q0 := 0) B.2.2.2.2.2.2.2.1 (fun k z hz => by
    cases k with
    | zero => cases hz; exact hH.1.2 a _ ha
    | succ k => cases hz) hq rfl
theorem aw_callV (ci : Nat) (r : Option Nat) (av : List Value) (n : Nat) {a : Nat} {fs : List Value} (hra : r = some a) (ha : x.2 a = some (.inr (ci, fs))) {q : vw_C} (hq : vwCl[ci]? = some q) (hqc : q.1 = y.cls) (hc : CT y My rmy l g (va_rf (some a) :: av) x (.inl v) x2) (hw : xCall M My rm rmy y index n) (hin : Cond.instanceMethod y ∈ wt) (hse : Cond.selects y.cls y y ∈ wt) (hd : decode M.2.1 pc = .ok (.invokevirtual index, 3)) {st : List Value} (hs : st = av.reverse ++ va_rf r :: rest) (hn : av.length = n) (hr : (rest.map fun v => v.category).sum ≤ 8) (hR : rmy.frames + 1 ≤ rm.frames ∧ 8 + (My.2.2.1 + 11) + rmy.locals ≤ rm.locals) (hf : kc + rmy.cells ≤ rm.cells ∧ ks + rmy.slots ≤ rm.slots)
    (k : AW M rm l g x0 o1 x1 (kc + rmy.cells) (ks + rmy.slots) x2 (pc + 3) lv (v.toList ++ rest)) : AW M rm l g x0 o1 x1 kc ks x pc lv st := fun p e s m args below meth c B H locs ls hH hl => by
  subst hra
  exact xRun (va_runV (As := av) (rest := rest) (C := y.cls) (b := a) (xFix B) hc ⟨xCallB B hw hR, B.2.2.2.2.2.2.1 _ hin, B.2.2.2.2.2.2.1 _ hse⟩ ⟨xPc.blind, by rw [← hqc]; exact xRecv B hH ha hq, xPc.at B hH (.ref a :: av)⟩ rfl hn hl.1 hs (lv_room hr) hd hf) B.2.2.2.2.2.2.2.2.1 hH (fun H1 locs1 h1 => k p e s m args below meth c B H1 locs1 ls h1 hl)
theorem aw_callI (a : Nat) (av : List Value) (n : Nat) (hret : My.2.2.2.1 = none) (hyn : y.name = "<init>") (hc : CT y My rmy l g (va_rf (some a) :: av) x (.inl v) x2) (hw : xCall M My rm rmy y index n) (hin : Cond.instanceMethod y ∈ wt) (hd : decode M.2.1 pc = .ok (.invokespecial index, 3)) {st : List Value} (hs : st = av.reverse ++ va_rf (some a) :: rest) (hn : av.length = n) (hr : (rest.map fun v => v.category).sum ≤ 8) (hR : rmy.frames + 1 ≤ rm.frames ∧ 8 + (My.2.2.1 + 11) + rmy.locals ≤ rm.locals) (hf : kc + rmy.cells ≤ rm.cells ∧ ks + rmy.slots ≤ rm.slots)
    (k : AW M rm l g x0 o1 x1 (kc + rmy.cells) (ks + rmy.slots) x2 (pc + 3) lv (v.toList ++ rest)) : AW M rm l g x0 o1 x1 kc ks x pc lv st := fun p e s m args below meth c B H locs ls hH hl => by
  have hcb := xCallB B hw hR
  unfold CT at hc
  rw [hret] at hcb hc
  exact xRun (va_runI (As := av) (rest := rest) (b := a) (xFix B) hc ⟨hcb, hyn, B.2.2.2.2.2.2.1 _ hin⟩ ⟨xPc.blind, xPc.at B hH (.ref a :: av)⟩ rfl hn hl.1 hs (lv_room hr) hd hf) B.2.2.2.2.2.2.2.2.1 hH (fun H1 locs1 h1 => k p e s m args below meth c B H1 locs1 ls h1 hl)
/-- .. of a nest mate's private method -/
abbrev xCallN (M My : xM) (y : MethodName) (index n : Nat) (host : String) : Prop := Cond.methodLinkNest M.1 index y host ∈ lw_tbl ∧ Cond.code y My.2.1 My.2.2.1 My.2.2.2.1 ∈ wt ∧ Cond.initialized y.cls ∈ wt ∧ (y.cls ≠ "java/lang/invoke/MethodHandle" ∧ y.cls ≠ "java/lang/invoke/VarHandle" ∧ (parseMethodDescriptor y.desc).map (fun d => d.parameters.length) = some n)
theorem xCallNB (B : xB M l g x0 o1 p s m args meth c) {n : Nat} {host : String} (hc : xCallN M My y index n host) (hR : rmy.frames + 1 ≤ rm.frames ∧ 8 + (My.2.2.1 + 11) + rmy.locals ≤ rm.locals) : va_CN rm s args M.1 index y host My.2.1 My.2.2.1 My.2.2.2.1 (.code y My.2.1 My.2.2.1 My.2.2.2.1 :: wt) rmy rmy.cells rmy.slots n :=
  va_cnB n (Ts := wt) (ws' := wt) B.2.2.2.2.2.2.1 (wt_in hc.2.1) rfl rfl rfl (B.2.2.2.2.2.2.2.2.2.2.1.2 _ hc.1 rfl) (B.2.2.2.2.2.2.1 _ hc.2.2.1) hc.2.2.2 hR
theorem aw_callSN (host : String) (av : List Value) (n : Nat) (hc : CT y My rmy l g av x (.inl v) x2) (hw : xCallN M My y index n host) (hst : Cond.static y ∈ wt) (hd : decode M.2.1 pc = .ok (.invokestatic index, 3)) {st : List Value} (hs : st = av.reverse ++ rest) (hn : av.length = n) (hr : (rest.map fun v => v.category).sum ≤ 8) (hR : rmy.frames + 1 ≤ rm.frames ∧ 8 + (My.2.2.1 + 11) + rmy.locals ≤ rm.locals) (hf : kc + rmy.cells ≤ rm.cells ∧ ks + rmy.slots ≤ rm.slots)
    (k : AW M rm l g x0 o1 x1 (kc + rmy.cells) (ks + rmy.slots) x2 (pc + 3) lv (v.toList ++ rest)) : AW M rm l g x0 o1 x1 kc ks x pc lv st := fun p e s m args below meth c B H locs ls hH hl =>
  xRun (va_runSN (As := av) (rest := rest) (xFix B) hc ⟨xCallNB B hw hR, B.2.2.2.2.2.2.1 _ hst, trivial⟩ ⟨xPc.blind, xPc.at B hH av⟩ rfl hn hl.1 hs (lv_room hr) hd hf) B.2.2.2.2.2.2.2.2.1 hH (fun H1 locs1 h1 => k p e s m args below meth c B H1 locs1 ls h1 hl)
theorem aw_callIN (host : String) (a : Nat) (av : List Value) (n : Nat) (hret : My.2.2.2.1 = none) (hyn : y.name = "<init>") (hc : CT y My rmy l g (va_rf (some a) :: av) x (.inl v) x2) (hw : xCallN M My y index n host) (hin : Cond.instanceMethod y ∈ wt) (hd : decode M.2.1 pc = .ok (.invokespecial index, 3)) {st : List Value} (hs : st = av.reverse ++ va_rf (some a) :: rest) (hn : av.length = n) (hr : (rest.map fun v => v.category).sum ≤ 8) (hR : rmy.frames + 1 ≤ rm.frames ∧ 8 + (My.2.2.1 + 11) + rmy.locals ≤ rm.locals) (hf : kc + rmy.cells ≤ rm.cells ∧ ks + rmy.slots ≤ rm.slots)
    (k : AW M rm l g x0 o1 x1 (kc + rmy.cells) (ks + rmy.slots) x2 (pc + 3) lv (v.toList ++ rest)) : AW M rm l g x0 o1 x1 kc ks x pc lv st := fun p e s m args below meth c B H locs ls hH hl => by
  have hcb := xCallNB B hw hR
  unfold CT at hc
  rw [hret] at hcb hc
  exact xRun (va_runIN (As := av) (rest := rest) (b := a) (xFix B) hc ⟨hcb, hyn, B.2.2.2.2.2.2.1 _ hin⟩ ⟨xPc.blind, xPc.at B hH (.ref a :: av)⟩ rfl hn hl.1 hs (lv_room hr) hd hf) B.2.2.2.2.2.2.2.2.1 hH (fun H1 locs1 h1 => k p e s m args below meth c B H1 locs1 ls h1 hl)
theorem aw_objInit {r : Option Nat} {a : Nat} (hra : r = some a) (hl0 : Cond.methodLink M.1 index Lib.objectInit ∈ wt) (hd : decode M.2.1 pc = .ok (.invokespecial index, 3)) (hr : (rest.map fun v => v.category).sum ≤ 8) (hR : 1 ≤ rm.frames ∧ 20 ≤ rm.locals) (hin : Cond.instanceMethod Lib.objectInit ∈ wt) (hcd : Cond.code Lib.objectInit ⟨#[0xb1]⟩ 1 none ∈ wt)
    (k : AW M rm l g x0 o1 x1 kc ks x (pc + 3) lv rest) : AW M rm l g x0 o1 x1 kc ks x pc lv (va_rf r :: rest) := fun p e s m args below meth c B H locs ls hH hl => by
  subst hra
  have h8 := lv_room (m := m) (pc := pc) (ls := ls) (rest := va_rf (some a) :: rest) hr
  refine W.objInit B.1 B.2.1 B.2.2.2.2.2.1 (B.2.2.2.2.2.2.1 _ hl0) (B.2.2.2.2.2.2.1 _ hin) (B.2.2.2.2.2.2.1 _ hcd) rfl (hl.1.trans B.2.2.1.symm) rfl hd hR.1 (by omega) ?_
  exact k p e s m args below meth c B H locs ls hH hl
end AWC
