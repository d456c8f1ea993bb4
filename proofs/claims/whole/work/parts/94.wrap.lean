/-! The law's wrappers: methods with handlers that return, whatever the callee does. -/
def xNcs : List (String × String) := [("java/lang/IllegalStateException", "java/lang/IllegalArgumentException"), ("java/lang/IndexOutOfBoundsException", "java/lang/IllegalArgumentException"), ("java/lang/IllegalArgumentException", "java/lang/IllegalStateException"), ("java/lang/IndexOutOfBoundsException", "java/lang/IllegalStateException"), ("java/lang/IllegalArgumentException", "java/lang/IndexOutOfBoundsException"), ("java/lang/IllegalStateException", "java/lang/IndexOutOfBoundsException")]
def xK (U : State) : Prop := ∀ q ∈ xNcs, va_Nc q.1 q.2 U
theorem xK.go {s U : State} (h : xK s) (hW : s.WarmedH U.vm) : xK U := fun q hq => (h q hq).moved hW.alike
theorem xK.same {U V : State} (h : xK U) (hv : V.vm = U.vm) : xK V := fun q hq => (h q hq).moved (by rw [hv]; exact Vm.Alike.refl _)
def xQw (g : xG) (x0 : xV) (v : Int32) (x1 : xV) : Array Value → State → Outcome → State → Prop := fun _ st o t => o = .returned (some (.int v)) ∧ (∃ z : Nat, x1.1 ≤ z ∧ xP g (z, x1.2) t.heap) ∧ xD x0 x1 ∧ va_F (xF x0) st t
abbrev xNX : String → State → State → Prop := fun _ _ _ => False
abbrev xPw (g : xG) (x0 : xV) : State → Prop := fun U => xPc g x0 U ∧ xK U
def WT (y : MethodName) (M : xM) (hh : List (Nat × Nat × Nat × Nat)) (rm : Room) (l : Launch) (g : xG) (av : List Value) (x0 : xV) (v : Int32) (x1 : xV) : Prop :=
  vx_Met l y (.codeWith y M.2.1 M.2.2.1 M.2.2.2.1 hh :: wt) rm (va_Pc av (xPw g x0)) (xQw g x0 v x1) xNX rm.cells rm.slots (xF x0)
def xXw (hh : List (Nat × Nat × Nat × Nat)) : xXT := fun s _ c => c.exceptionTable.toList = tableOf hh ∧ xK s
def xZw (rm : Room) (g : xG) (x0 : xV) (v : Int32) (x1 : xV) : xZT := fun below args s => vx_MQ below (xQw g x0 v x1) xNX args s rm.cells rm.slots (xF x0)
theorem WT.of {y : MethodName} {M : xM} {hh : List (Nat × Nat × Nat × Nat)} {lv0 : List (Nat × Value)} {rm : Room} {l : Launch} {g : xG} {av : List Value} {x0 : xV} {v : Int32} {x1 : xV} (hy : plainName y.cls = true) (hc : y.cls = M.1) (hn : y.name = M.2.2.2.2) (hL : (lg_sl av).length ≤ M.2.2.1) (hlv : lv_args 0 av = lv0) (hl : l.stackTraces = false)
    (hw : AWG (xXw hh) (xZw rm g x0 v x1) M rm l g x0 0 0 x0 0 lv0 []) : WT y M hh rm l g av x0 v x1 := by
  subst hlv
  refine vx_ofWH (cc := M.2.1) (maxL := M.2.2.1) (ret := M.2.2.2.1) (hh := hh) hy rfl ?_
  intro p e s m args below meth c s₁ B hml hv
  obtain ⟨rfl, ⟨hP, hK, hI⟩, hX⟩ := hv
  have hts := atoms_spec (ws := .codeWith y M.2.1 M.2.2.1 M.2.2.2.1 hh :: wt) B.pre
  rw [lg_entry_eq]
  refine hw p e s m _ below meth c ⟨B.exec, B.bytes, hml, B.returns, B.notSynchronized, ?_, fun w h => hts w (List.mem_cons_of_mem _ h), hK, hP.1, ?_, hI, (fun E h => by cases h), hl⟩ ⟨vx_table (x := y) B (hts _ List.mem_cons_self), hX⟩ s.heap [] _ ⟨hP, xD.self, va_S.rf⟩ (lv_entry av hL)
  · rw [← hc]; exact findClass_of_methodNamed B.named
  · rw [← hn]; exact (name_of_methodNamed B.named B.method).1
section AGW
variable {X : xXT} {Z : xZT} {M My : xM} {rm rmy : Room} {l : Launch} {g : xG} {x0 : xV} {x1 x2 : xV} {kc ks : Nat} {x : xV} {pc : Nat} {lv : List (Nat × Value)} {rest : List Value} {y : MethodName} {index : Nat} {hh : List (Nat × Nat × Nat × Nat)}
/-- a wrapper's end -/
theorem agw_ret {a : Int32} (hd : decode M.2.1 pc = .ok (.ireturn, 1)) (hr : M.2.2.2.1 = some .int) (hx : x.2 = x1.2) (hz : x1.1 ≤ x.1) (hk : kc ≤ rm.cells ∧ ks ≤ rm.slots) : AWG X (xZw rm g x0 a x1) M rm l g x0 kc ks x pc lv [.int a] := fun p e s m args below meth c B hX H locs ls hH hl => by
  refine W.widen hk.1 hk.2 (vx_ret (W.iret (hlocks := B.2.2.2.2.1) B.1 B.2.1 (by rw [B.2.2.2.1, hr]) (fun t ht hW => ?_) hH.2.2.2.2 hd))
  have hP := hH.1
  have hD := hH.2.1
  refine ⟨rfl, ⟨x.1, hz, ?_⟩, ?_, hH.2.2.F ht⟩
  · rw [ht, ← hx]; exact hP
  · intro q hq; rw [← hx] at hq; exact hD q hq
/-- a call of the landed class that throws, caught here -/
theorem agw_catch (ci : Nat) (r : Option Nat) (av : List Value) (n : Nat) {a : Nat} {fs : List Value} {E : String} (pre : List ExceptionTableEntry) (ze : ExceptionTableEntry) (suf : List ExceptionTableEntry) (hsp : tableOf hh = pre ++ ze :: suf) (hpass : ∀ z ∈ pre, z.catchType ≠ 0 ∧ ∃ nm : String, Cond.classLink M.1 z.catchType nm ∈ wt ∧ (E, nm) ∈ xNcs) (hcov : covers ze pc = true) (hc0 : ze.catchType ≠ 0) (hlk : Cond.classLink M.1 ze.catchType E ∈ wt) (hcst : Cond.castable E E ∈ lw_tbl)
    (hra : r = some a) (ha : x.2 a = some (.inr (ci, fs))) {q : vw_C} (hq : vwCl[ci]? = some q) (hqc : q.1 = y.cls) (hc : CT y My rmy l g (va_rf (some a) :: av) x (.inr E) x2) (hw : xCall M My rm rmy y index n) (hin : Cond.instanceMethod y ∈ wt) (hse : Cond.selects y.cls y y ∈ wt) (hd : decode M.2.1 pc = .ok (.invokevirtual index, 3)) {st : List Value} (hs : st = av.reverse ++ va_rf r :: rest) (hn : av.length = n) (hr : (rest.map fun v => v.category).sum ≤ 8) (hR : rmy.frames + 1 ≤ rm.frames ∧ 8 + (My.2.2.1 + 11) + rmy.locals ≤ rm.locals) (hf : kc + rmy.cells ≤ rm.cells ∧ ks + rmy.slots ≤ rm.slots)
    (k : ∀ (z b : Nat), x2.1 ≤ z → xD x x2 → AWG (xXw hh) Z M rm l g x0 (kc + rmy.cells) (ks + rmy.slots) (z, x2.2) ze.handlerPc lv [.ref b]) : AWG (xXw hh) Z M rm l g x0 kc ks x pc lv st := fun p e s m args below meth c B hX H locs ls hH hl => by
  subst hra
  intro T hT X
  rcases (vx_runV (As := av) (rest := rest) (C := y.cls) (b := a) (g := F0 m pc ls st) (xFix B) hc ⟨xCallB B hw hR, B.2.2.2.2.2.2.1 _ hin, B.2.2.2.2.2.2.1 _ hse⟩ ⟨xPc.blind, by rw [← hqc]; exact xRecv B hH ha hq, xPc.at B hH (.ref a :: av)⟩ rfl hn hl.1 hs (lv_room hr) hd hf) T hT X with ⟨v, st₀, t, T', L, e0, X', hL, e1, e2, hq, st⟩ | ⟨b, st₀, t, T', L, E', ce, e0, X', hL, e1, e2, ⟨rfl, ⟨z, hz1, hP⟩, hD, hF⟩, hce, hcv, hcl, st⟩
  · exact hq.elim
  · have h0 := B.2.2.2.2.2.2.2.2.1
    have hz := hH.size h0
    have hup := xF.up hH.2.1 hz
    rw [va_F, e0] at hF
    have hH1 : xH g x0 (z, x2.2) s T'.heap (locs ++ L) := by
      refine ⟨by rw [e1]; exact hP, hH.2.1.trans hD hz, ?_, ?_, ?_⟩
      · rw [e1]; exact Nat.le_trans hH.2.2.1 hF.1
      · intro q h1 h2
        rw [e1, hF.2 q (Nat.lt_of_lt_of_le h1 hH.2.2.1) (fun z => h2 (hup q z))]
        exact hH.2.2.2.1 q h1 h2
      · intro q hq
        rcases List.mem_append.mp hq with h | h
        · exact hH.2.2.2.2 q h
        · exact hup _ (hL q h)
    have hJ := B.2.2.2.2.2.2.2.2.2.2.1.2
    obtain ⟨t2, a1, b1⟩ := vx_catch (own := M.1) (name := E') (E := E') (q := b) (ce := ce) (rest := rest) (ls := ls) (pc := pc) (H := T'.heap) B.2.2.2.2.2.1 pre ze suf (hX.1.trans hsp) (fun w hw => by
      obtain ⟨h1, nm, h2, h3⟩ := hpass w hw
      exact Or.inr ⟨h1, nm, B.2.2.2.2.2.2.1 _ h2, hX.2 _ h3⟩) hcov hc0 (B.2.2.2.2.2.2.1 _ hlk) (va_Nw.use rfl (hJ _ hcst rfl)) (by rw [e1]; exact hce) hcv hcl (k z b hz1 hD p e s m args below meth c B hX T'.heap _ ls hH1 hl) T' rfl X'
    exact ⟨t2, st.trans a1, b1⟩
end AGW
