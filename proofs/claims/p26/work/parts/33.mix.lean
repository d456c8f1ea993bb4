/-! The law's wrappers: methods with handlers that return, whatever the callee does. -/
def xNcs : List (String × String) := [("java/lang/IllegalStateException", "java/lang/IllegalArgumentException"), ("java/lang/IndexOutOfBoundsException", "java/lang/IllegalArgumentException"), ("java/lang/IllegalArgumentException", "java/lang/IllegalStateException"), ("java/lang/IndexOutOfBoundsException", "java/lang/IllegalStateException"), ("java/lang/IllegalArgumentException", "java/lang/IndexOutOfBoundsException"), ("java/lang/IllegalStateException", "java/lang/IndexOutOfBoundsException")]
def xK (U : State) : Prop := ∀ q ∈ xNcs, va_Nc q.1 q.2 U
theorem xK.go {s U : State} (h : xK s) (hW : s.WarmedH U.vm) : xK U := fun q hq => (h q hq).moved hW.alike
theorem xK.same {U V : State} (h : xK U) (hv : V.vm = U.vm) : xK V := fun q hq => (h q hq).moved (by rw [hv]; exact Vm.Alike.refl _)
def xQw (g : xG) (x0 : xV) (v : Int32) (x1 : xV) : Array Value → State → Outcome → State → Prop := fun _ st o t => o = .returned (some (.int v)) ∧ (∃ z : Nat, x1.1 ≤ z ∧ xP g (z, x1.2) t.heap) ∧ xD x0 x1 ∧ va_F (xF x0) st t
abbrev xNX : String → State → State → Prop := fun _ _ _ => False
abbrev xPw (g : xG) (x0 : xV) : State → Prop := fun U => xPc g x0 U ∧ xK U
def WT (y : MethodName) (M : xM) (hh : List (Nat × Nat × Nat × Nat)) (rm : Room) (l : Launch) (g : xG) (av : List Value) (x0 : xV) (v : Int32) (x1 : xV) : Prop :=
  vx_Met l y (.codeWith y M.2.1 M.2.2.1 M.2.2.2.1 hh :: wt) rm (va_Pc av (xPw g x0)) (xQw g x0 v x1) xNX rm.cells rm.slots (xF x0)
def xXw (hh : List (Nat × Nat × Nat × Nat)) : xXT := fun s _ c => c.exceptionTable.toList = tableOf hh ∧ xK s
def xZw (rm : Room) (g : xG) (x0 : xV) (v : Int32) (x1 : xV) : xZT := fun below args s => vx_MQ below (xQw g x0 v x1) xNX args s rm.cells rm.slots (xF x0)
theorem WT.of {y : MethodName} {M : xM} {hh : List (Nat × Nat × Nat × Nat)} {lv0 : List (Nat × Value)} {rm : Room} {l : Launch} {g : xG} {av : List Value} {x0 : xV} {v : Int32} {x1 : xV} (hy : plainName y.cls = true) (hc : y.cls = M.1) (hn : y.name = M.2.2.2.2) (hL : (lg_sl av).length ≤ M.2.2.1) (hlv : lv_args 0 av = lv0) (hl : l.stackTraces = false)
    (hw : AWG (xXw hh) (xZw rm g x0 v x1) M rm l g x0 0 0 x0 0 lv0 []) : WT y M hh rm l g av x0 v x1 := by
  subst hlv
  refine vx_ofWH (cc := M.2.1) (maxL := M.2.2.1) (ret := M.2.2.2.1) (hh := hh) hy rfl ?_
  intro p e s m args below meth c s₁ B hml hv
  obtain ⟨rfl, ⟨hP, hK, hI⟩, hX⟩ := hv
  have hts := atoms_spec (ws := .codeWith y M.2.1 M.2.2.1 M.2.2.2.1 hh :: wt) B.pre
  rw [lg_entry_eq]
  refine hw p e s m _ below meth c ⟨B.exec, B.bytes, hml, B.returns, B.notSynchronized, ?_, fun w h => hts w (List.mem_cons_of_mem _ h), hK, hP.1, ?_, hI, (fun E h => by cases h), hl⟩ ⟨vx_table (x := y) B (hts _ List.mem_cons_self), hX⟩ s.heap [] _ ⟨hP, xD.self, va_S.rf⟩ (lv_entry av hL)
  · rw [← hc]; exact findClass_of_methodNamed B.named
  · rw [← hn]; exact (name_of_methodNamed B.named B.method).1
section AGW
variable {X : xXT} {Z : xZT} {M My : xM} {rm rmy : Room} {l : Launch} {g : xG} {x0 : xV} {x1 x2 : xV} {kc ks : Nat} {x : xV} {pc : Nat} {lv : List (Nat × Value)} {rest : List Value} {y : MethodName} {index : Nat} {hh : List (Nat × Nat × Nat × Nat)}
/-- a wrapper's end -/
theorem agw_ret {a : Int32} (hd : decode M.2.1 pc = .ok (.ireturn, 1)) (hr : M.2.2.2.1 = some .int) (hx : x.2 = x1.2) (hz : x1.1 ≤ x.1) (hk : kc ≤ rm.cells ∧ ks ≤ rm.slots) : AWG X (xZw rm g x0 a x1) M rm l g x0 kc ks x pc lv [.int a] := fun p e s m args below meth c B hX H locs ls hH hl => by
  refine W.widen hk.1 hk.2 (vx_ret (W.iret (hlocks := B.2.2.2.2.1) B.1 B.2.1 (by rw [B.2.2.2.1, hr]) (fun t ht hW => ?_) hH.2.2.2.2 hd))
  have hP := hH.1
  have hD := hH.2.1
  refine ⟨rfl, ⟨x.1, hz, ?_⟩, ?_, hH.2.2.F ht⟩
  · rw [ht, ← hx]; exact hP
  · intro q hq; rw [← hx] at hq; exact hD q hq
/-- a call of the landed class that throws, caught here -/
theorem agw_catch (ci : Nat) (r : Option Nat) (av : List Value) (n : Nat) {a : Nat} {fs : List Value} {E : String} (pre : List ExceptionTableEntry) (ze : ExceptionTableEntry) (suf : List ExceptionTableEntry) (hsp : tableOf hh = pre ++ ze :: suf) (hpass : ∀ z ∈ pre, z.catchType ≠ 0 ∧ ∃ nm : String, Cond.classLink M.1 z.catchType nm ∈ wt ∧ (E, nm) ∈ xNcs) (hcov : covers ze pc = true) (hc0 : ze.catchType ≠ 0) (hlk : Cond.classLink M.1 ze.catchType E ∈ wt) (hcst : Cond.castable E E ∈ lw_tbl)
    (hra : r = some a) (ha : x.2 a = some (.inr (ci, fs))) {q : vw_C} (hq : vwCl[ci]? = some q) (hqc : q.1 = y.cls) (hc : CT y My rmy l g (va_rf (some a) :: av) x (.inr E) x2) (hw : xCall M My rm rmy y index n) (hin : Cond.instanceMethod y ∈ wt) (hse : Cond.selects y.cls y y ∈ wt) (hd : decode M.2.1 pc = .ok (.invokevirtual index, 3)) {st : List Value} (hs : st = av.reverse ++ va_rf r :: rest) (hn : av.length = n) (hr : (rest.map fun v => v.category).sum ≤ 8) (hR : rmy.frames + 1 ≤ rm.frames ∧ 8 + (My.2.2.1 + 11) + rmy.locals ≤ rm.locals) (hf : kc + rmy.cells ≤ rm.cells ∧ ks + rmy.slots ≤ rm.slots)
    (k : ∀ (z b : Nat), x2.1 ≤ z → xD x x2 → AWG (xXw hh) Z M rm l g x0 (kc + rmy.cells) (ks + rmy.slots) (z, x2.2) ze.handlerPc lv [.ref b]) : AWG (xXw hh) Z M rm l g x0 kc ks x pc lv st := fun p e s m args below meth c B hX H locs ls hH hl => by
  subst hra
  intro T hT X
  rcases (vx_runV (As := av) (rest := rest) (C := y.cls) (b := a) (g := F0 m pc ls st) (xFix B) hc ⟨xCallB B hw hR, B.2.2.2.2.2.2.1 _ hin, B.2.2.2.2.2.2.1 _ hse⟩ ⟨xPc.blind, by rw [← hqc]; exact xRecv B hH ha hq, xPc.at B hH (.ref a :: av)⟩ rfl hn hl.1 hs (lv_room hr) hd hf) T hT X with ⟨v, st₀, t, T', L, e0, X', hL, e1, e2, hq, st⟩ | ⟨b, st₀, t, T', L, E', ce, e0, X', hL, e1, e2, ⟨rfl, ⟨z, hz1, hP⟩, hD, hF⟩, hce, hcv, hcl, st⟩
  · exact hq.elim
  · have h0 := B.2.2.2.2.2.2.2.2.1
    have hz := hH.size h0
    have hup := xF.up hH.2.1 hz
    rw [va_F, e0] at hF
    have hH1 : xH g x0 (z, x2.2) s T'.heap (locs ++ L) := by
      refine ⟨by rw [e1]; exact hP, hH.2.1.trans hD hz, ?_, ?_, ?_⟩
      · rw [e1]; exact Nat.le_trans hH.2.2.1 hF.1
      · intro q h1 h2
        rw [e1, hF.2 q (Nat.lt_of_lt_of_le h1 hH.2.2.1) (fun z => h2 (hup q z))]
        exact hH.2.2.2.1 q h1 h2
      · intro q hq
        rcases List.mem_append.mp hq with h | h
        · exact hH.2.2.2.2 q h
        · exact hup _ (hL q h)
    have hJ := B.2.2.2.2.2.2.2.2.2.2.1.2
    obtain ⟨t2, a1, b1⟩ := vx_catch (own := M.1) (name := E') (E := E') (q := b) (ce := ce) (rest := rest) (ls := ls) (pc := pc) (H := T'.heap) B.2.2.2.2.2.1 pre ze suf (hX.1.trans hsp) (fun w hw => by
      obtain ⟨h1, nm, h2, h3⟩ := hpass w hw
      exact Or.inr ⟨h1, nm, B.2.2.2.2.2.2.1 _ h2, hX.2 _ h3⟩) hcov hc0 (B.2.2.2.2.2.2.1 _ hlk) (va_Nw.use rfl (hJ _ hcst rfl)) (by rw [e1]; exact hce) hcv hcl (k z b hz1 hD p e s m args below meth c B hX T'.heap _ ls hH1 hl) T' rfl X'
    exact ⟨t2, st.trans a1, b1⟩
end AGW
/-! The law's world: the landed class's objects, and the law's own rows. -/
def laY (g : xG) (lo : Nat) (L : MS) : Nat → Option va_E := fun a => if lo ≤ a then laA g L (a - lo) else none
def LW (g : xG) (lo : Nat) (h : TH) (L : MS) : xV := xU (thE g h) (laY g lo L)
theorem thE_no {g : xG} {h : TH} {a : Nat} (hk : t_kd h a = 0) : (thE g h).2 a = none := by
  show thC g h a (t_kd h a) = none
  rw [hk]; rfl
theorem laY_dom {g : xG} {lo a : Nat} {L : MS} (h : laY g lo L a ≠ none) : lo ≤ a ∧ a < lo + 11 := by
  unfold laY at h
  by_cases h1 : lo ≤ a
  · refine ⟨h1, ?_⟩
    rw [if_pos h1] at h
    rcases Nat.lt_or_ge a (lo + 11) with h3 | h3
    · exact h3
    · have h5 : lar[a - lo]? = none := List.getElem?_eq_none (by show 11 ≤ _; omega)
      exact absurd (by simp [laA, h5]) h
  · rw [if_neg h1] at h; exact absurd rfl h
section LWS
variable {g : xG} {lo : Nat} {h h2 : TH} {L L2 : MS}
theorem LDp.dj (hD : LDp lo h) : ∀ a, laY g lo L a ≠ none → (thE g h).2 a = none ∧ a < (thE g h).1 := fun a ha => by
  obtain ⟨h1, h2⟩ := laY_dom ha
  exact ⟨thE_no (hD.2.1 a (Or.inr ⟨h1, h2⟩)), Nat.lt_of_lt_of_le h2 hD.1⟩
theorem LDp.djl (hD : LDp lo h) : ∀ a, (thE g h).2 a ≠ none → (laE g lo (t_sz h) L).2 a = none ∧ a < (laE g lo (t_sz h) L).1 := fun a ha => by
  have h1 : ¬ laY g lo L a ≠ none := fun z => ha (thE_no (hD.2.1 a (Or.inr (laY_dom z))))
  refine ⟨Decidable.byContradiction fun z => h1 z, ?_⟩
  show a < t_sz h
  rcases Nat.lt_or_ge a (t_sz h) with h3 | h3
  · exact h3
  · exact absurd (thE_no (hD.2.2 a h3)) ha
theorem LW_l (hD : LDp lo h) : LW g lo h L = xU (laE g lo (t_sz h) L) (thE g h).2 := by
  refine Prod.ext rfl (funext fun q => ?_)
  have hm : (laE g lo (t_sz h) L).2 q = laY g lo L q := rfl
  unfold LW
  cases hx : (thE g h).2 q with
  | some e =>
    have h0 := (hD.djl (g := g) (L := L) q (by rw [hx]; exact fun z => by cases z)).1
    rw [xU_l hx, xU_r h0, hx]
  | none =>
    rw [xU_r hx]
    cases h0 : laY g lo L q with
    | some e => rw [xU_l (hm.trans h0)]
    | none => rw [xU_r (hm.trans h0), hx]
theorem ctC {y : MethodName} {M : xM} {rm : Room} {l : Launch} {av : List Value} {v : Option Value ⊕ String} (hD : LDp lo h) (hc : CT y M rm l g av (thE g h) v (thE g h2)) : CT y M rm l g av (LW g lo h L) v (LW g lo h2 L) := hc.frame hD.dj
theorem ctA {y : MethodName} {M : xM} {rm : Room} {l : Launch} {av : List Value} {v : Option Value ⊕ String} (hD : LDp lo h) (hc : CT y M rm l g av (laE g lo (t_sz h) L) v (laE g lo (t_sz h) L2)) : CT y M rm l g av (LW g lo h L) v (LW g lo h L2) := by
  rw [LW_l hD, LW_l hD]
  exact hc.frame hD.djl
theorem LW_ar {j : Nat} (hD : LDp lo h) (hj : j < 11) : (LW g lo h L).2 (lo + j) = laA g L j := by
  unfold LW
  rw [xU_r (thE_no (hD.2.1 _ (Or.inr ⟨by omega, by omega⟩)))]
  show (if lo ≤ lo + j then laA g L (lo + j - lo) else none) = _
  rw [if_pos (by omega), show lo + j - lo = j by omega]
theorem LW_set {j : Nat} {e : va_E} (hD : LDp lo h) (hj : j < 11) (he : laA g L2 j = some e) (ho : ∀ q, q ≠ j → m_I L2 q = m_I L q ∧ m_J L2 q = m_J L q) : xUp (LW g lo h L) (lo + j) e = LW g lo h L2 := by
  refine Prod.ext rfl (funext fun q => ?_)
  show (if q = lo + j then some e else (LW g lo h L).2 q) = (LW g lo h L2).2 q
  by_cases hq : q = lo + j
  · subst hq; rw [if_pos rfl, LW_ar hD hj, he]
  · rw [if_neg hq]
    unfold LW
    cases hx : (thE g h).2 q with
    | some e => rw [xU_l hx, xU_l hx]
    | none =>
      rw [xU_r hx, xU_r hx]
      unfold laY
      by_cases h2 : lo ≤ q
      · rw [if_pos h2, if_pos h2]
        have h3 := ho (q - lo) (by omega)
        unfold laA
        rw [h3.1, h3.2]
      · rw [if_neg h2, if_neg h2]
theorem LW_no {b : Nat} (hD : LDp lo h) (hb : b + 8 < lo) : b < (LW g lo h L).1 ∧ (LW g lo h L).2 b = none := by
  refine ⟨show b < t_sz h by have := hD.1; omega, ?_⟩
  unfold LW
  rw [xU_r (thE_no (hD.2.1 b (Or.inl hb)))]
  show (if lo ≤ b then laA g L (b - lo) else none) = none
  rw [if_neg (by omega)]
/-- the same objects in a bigger heap -/
def s_Z (h : TH) (z : Nat) : TH := (z, h.2)
theorem LW_Z {z : Nat} : LW g lo (s_Z h z) L = (z, (LW g lo h L).2) := rfl
theorem LDp.Z {z : Nat} (hD : LDp lo h) (hz : t_sz h ≤ z) : LDp lo (s_Z h z) := ⟨Nat.le_trans hD.1 hz, hD.2.1, fun a ha => hD.2.2 a (Nat.le_trans hz ha)⟩
theorem LW_ob {t : Nat} (hk : t_kd h t = 7) : (LW g lo h L).2 t = some (.inr (6, thF h t (tgs 6))) := xU_l (thC_ob (ci := 6) hk (by decide))
end LWS
/-! A contract that tells of its end by a relation: R of the answer, the class's objects, the law's rows. -/
def xQr (g : xG) (lo : Nat) (x0 : xV) (R : Int32 → TH → MS → Prop) : Array Value → State → Outcome → State → Prop := fun _ st o t => ∃ (v : Int32) (h : TH) (L : MS), o = .returned (some (.int v)) ∧ R v h L ∧ LDp lo h ∧ xP g (LW g lo h L) t.heap ∧ xD x0 (LW g lo h L) ∧ va_F (xF x0) st t
abbrev xPs (g : xG) (b Ls : Nat) (xs : Nat → Int32) (x0 : xV) : State → Prop := fun U => xPw g x0 U ∧ va_X b Ls xs U U.heap
def RT (y : MethodName) (M : xM) (rm : Room) (l : Launch) (g : xG) (lo b Ls : Nat) (xs : Nat → Int32) (av : List Value) (x0 : xV) (R : Int32 → TH → MS → Prop) : Prop :=
  Met l y (.code y M.2.1 M.2.2.1 M.2.2.2.1 :: wt) rm (va_Pc av (xPs g b Ls xs x0)) (xQr g lo x0 R) rm.cells rm.slots (xF x0)
def RTH (y : MethodName) (M : xM) (hh : List (Nat × Nat × Nat × Nat)) (rm : Room) (l : Launch) (g : xG) (lo : Nat) (av : List Value) (x0 : xV) (R : Int32 → TH → MS → Prop) : Prop :=
  vx_Met l y (.codeWith y M.2.1 M.2.2.1 M.2.2.2.1 hh :: wt) rm (va_Pc av (xPw g x0)) (xQr g lo x0 R) xNX rm.cells rm.slots (xF x0)
def XS (b Ls : Nat) (xs : Nat → Int32) : xXT := fun s _ _ => xK s ∧ va_X b Ls xs s s.heap
def zR (rm : Room) (g : xG) (lo : Nat) (x0 : xV) (R : Int32 → TH → MS → Prop) : xZT := fun below args s => MQ below (xQr g lo x0 R) args s rm.cells rm.slots (xF x0)
def zRH (rm : Room) (g : xG) (lo : Nat) (x0 : xV) (R : Int32 → TH → MS → Prop) : xZT := fun below args s => vx_MQ below (xQr g lo x0 R) xNX args s rm.cells rm.slots (xF x0)
theorem RT.of {y : MethodName} {M : xM} {lv0 : List (Nat × Value)} {rm : Room} {l : Launch} {g : xG} {lo b Ls : Nat} {xs : Nat → Int32} {av : List Value} {x0 : xV} {R : Int32 → TH → MS → Prop} (hy : plainName y.cls = true) (hc : y.cls = M.1) (hn : y.name = M.2.2.2.2) (hL : (lg_sl av).length ≤ M.2.2.1) (hlv : lv_args 0 av = lv0) (hl : l.stackTraces = false)
    (hw : AWG (XS b Ls xs) (zR rm g lo x0 R) M rm l g x0 0 0 x0 0 lv0 []) : RT y M rm l g lo b Ls xs av x0 R := by
  subst hlv
  refine Met.ofW (cc := M.2.1) (maxL := M.2.2.1) (ret := M.2.2.2.1) hy rfl ?_
  intro p e s m args below meth c s₁ B hml hv
  obtain ⟨rfl, ⟨⟨hP, hK, hI⟩, hX⟩, hS⟩ := hv
  have hts := atoms_spec (ws := .code y M.2.1 M.2.2.1 M.2.2.2.1 :: wt) B.pre
  rw [lg_entry_eq]
  refine hw p e s m _ below meth c ⟨B.exec, B.bytes, hml, B.returns, B.notSynchronized, ?_, fun w h => hts w (List.mem_cons_of_mem _ h), hK, hP.1, ?_, hI, (fun E h => by cases h), hl⟩ ⟨hX, hS⟩ s.heap [] _ ⟨hP, xD.self, va_S.rf⟩ (lv_entry av hL)
  · rw [← hc]; exact findClass_of_methodNamed B.named
  · rw [← hn]; exact (name_of_methodNamed B.named B.method).1
theorem RTH.of {y : MethodName} {M : xM} {hh : List (Nat × Nat × Nat × Nat)} {lv0 : List (Nat × Value)} {rm : Room} {l : Launch} {g : xG} {lo : Nat} {av : List Value} {x0 : xV} {R : Int32 → TH → MS → Prop} (hy : plainName y.cls = true) (hc : y.cls = M.1) (hn : y.name = M.2.2.2.2) (hL : (lg_sl av).length ≤ M.2.2.1) (hlv : lv_args 0 av = lv0) (hl : l.stackTraces = false)
    (hw : AWG (xXw hh) (zRH rm g lo x0 R) M rm l g x0 0 0 x0 0 lv0 []) : RTH y M hh rm l g lo av x0 R := by
  subst hlv
  refine vx_ofWH (cc := M.2.1) (maxL := M.2.2.1) (ret := M.2.2.2.1) (hh := hh) hy rfl ?_
  intro p e s m args below meth c s₁ B hml hv
  obtain ⟨rfl, ⟨hP, hK, hI⟩, hX⟩ := hv
  have hts := atoms_spec (ws := .codeWith y M.2.1 M.2.2.1 M.2.2.2.1 hh :: wt) B.pre
  rw [lg_entry_eq]
  refine hw p e s m _ below meth c ⟨B.exec, B.bytes, hml, B.returns, B.notSynchronized, ?_, fun w h => hts w (List.mem_cons_of_mem _ h), hK, hP.1, ?_, hI, (fun E h => by cases h), hl⟩ ⟨vx_table (x := y) B (hts _ List.mem_cons_self), hX⟩ s.heap [] _ ⟨hP, xD.self, va_S.rf⟩ (lv_entry av hL)
  · rw [← hc]; exact findClass_of_methodNamed B.named
  · rw [← hn]; exact (name_of_methodNamed B.named B.method).1
theorem wtW_in {y : MethodName} {b : ByteArray} {n : Nat} {r : Option FieldType} {hh : List (Nat × Nat × Nat × Nat)} (h : Cond.codeWith y b n r hh ∈ wt) : GoodIn wt (.codeWith y b n r hh :: wt) := fun w hw => (List.mem_cons.mp hw).elim (fun e => by subst e; exact ⟨h, wt_good _ h⟩) (fun h => ⟨h, wt_good _ h⟩)
theorem xPw.blind {g : xG} {x : xV} {av : List Value} : FrameBlind (va_Pc av (xPw g x)) := by
  intro a U f mk h
  obtain ⟨h1, ⟨h2, h3, h4, h5⟩, h6⟩ := h
  exact ⟨h1, ⟨h2, va_K.moved (u := U) (U := U.calling f mk a) (Vm.Alike.refl U.vm) h3, h4.same rfl rfl, h5.same rfl⟩, h6.same rfl⟩
theorem xPs.blind {g : xG} {b Ls : Nat} {xs : Nat → Int32} {x : xV} {av : List Value} : FrameBlind (va_Pc av (xPs g b Ls xs x)) := by
  intro a U f mk h
  obtain ⟨h1, ⟨⟨h2, h3, h4, h5⟩, h6⟩, h7⟩ := h
  exact ⟨h1, ⟨⟨h2, va_K.moved (u := U) (U := U.calling f mk a) (Vm.Alike.refl U.vm) h3, h4.same rfl rfl, h5.same rfl⟩, h6.same rfl⟩, va_X.moved (u := U) (U := U.calling f mk a) (Vm.Alike.refl U.vm) h7⟩
section AT
variable {M : xM} {l : Launch} {g : xG} {x0 x : xV} {o1 : Option Value ⊕ String} {p : Program} {s : State} {m : MethodId} {args : Array Value} {meth : Method} {c : Code} {H : Heap} {locs : List Loc}
theorem xPw.at (B : xB M l g x0 o1 p s m args meth c) (hK : xK s) (hH : xH g x0 x s H locs) (av : List Value) : ∀ U : State, U.heap = H → s.WarmedH U.vm → va_Pc av (xPw g x) av.toArray U := fun U hU hW => ⟨rfl, (xPc.at B hH av U hU hW).2, hK.go hW⟩
theorem xPs.at {b Ls : Nat} {xs : Nat → Int32} (B : xB M l g x0 o1 p s m args meth c) (hX : xK s ∧ va_X b Ls xs s s.heap) (hb0 : b < x0.1 ∧ x0.2 b = none) (hH : xH g x0 x s H locs) (av : List Value) : ∀ U : State, U.heap = H → s.WarmedH U.vm → va_Pc av (xPs g b Ls xs x) av.toArray U := fun U hU hW => by
  refine ⟨rfl, (xPw.at B hX.1 hH av U hU hW).2, ?_⟩
  rw [hU]
  exact va_X.moved hW.alike (va_X.kept hX.2 (hH.2.2.2.1 b (by rw [B.2.2.2.2.2.2.2.2.1]; exact hb0.1) (fun z => z.elim (fun z => z hb0.2) (fun z => by omega))))
end AT
abbrev xCallW (M My : xM) (y : MethodName) (hh : List (Nat × Nat × Nat × Nat)) (index n : Nat) : Prop := Cond.methodLink M.1 index y ∈ wt ∧ Cond.codeWith y My.2.1 My.2.2.1 My.2.2.2.1 hh ∈ wt ∧ Cond.initialized y.cls ∈ wt ∧ (y.cls ≠ "java/lang/invoke/MethodHandle" ∧ y.cls ≠ "java/lang/invoke/VarHandle" ∧ (parseMethodDescriptor y.desc).map (fun d => d.parameters.length) = some n)
section AGR
variable {X : xXT} {Z : xZT} {M My : xM} {rm rmy : Room} {l : Launch} {g : xG} {x0 : xV} {x : xV} {kc ks lo b Ls : Nat} {xs : Nat → Int32} {h : TH} {L : MS} {pc : Nat} {lv : List (Nat × Value)} {st rest : List Value} {y : MethodName} {index : Nat} {hh : List (Nat × Nat × Nat × Nat)} {R : Int32 → TH → MS → Prop}
theorem ag_lshr {a : Int64} {d : Int32} (hd : decode M.2.1 pc = .ok (.lshr, 1)) (k : AWG X Z M rm l g x0 kc ks x (pc + 1) lv (.long (x_shr a d) :: st)) : AWG X Z M rm l g x0 kc ks x pc lv (.int d :: .long a :: st) := fun p e s m args below meth c B hX H locs ls hH hl => lv_lshr B.1 B.2.1 hd rfl (k p e s m args below meth c B hX H locs ls hH hl)
theorem xr_end {s t : State} {H : Heap} {locs : List Loc} {args : Array Value} {v : Int32} (hH : xH g x0 (LW g lo h L) s H locs) (hD : LDp lo h) (hK : R v h L) (ht : t.heap = H) : xQr g lo x0 R args s (.returned (some (.int v))) t := ⟨v, h, L, rfl, hK, hD, by rw [ht]; exact hH.1, hH.2.1, hH.2.2.F ht⟩
theorem agr_iret {a : Int32} (hD : LDp lo h) (hK : R a h L) (hd : decode M.2.1 pc = .ok (.ireturn, 1)) (hr : M.2.2.2.1 = some .int) (hk : kc ≤ rm.cells ∧ ks ≤ rm.slots) : AWG X (zR rm g lo x0 R) M rm l g x0 kc ks (LW g lo h L) pc lv [.int a] := fun p e s m args below meth c B hX H locs ls hH hl =>
  W.widen hk.1 hk.2 (W.iret (hlocks := B.2.2.2.2.1) B.1 B.2.1 (by rw [B.2.2.2.1, hr]) (fun t ht hW => xr_end hH hD hK ht) hH.2.2.2.2 hd)
theorem agr_zret {a : Int32} (hD : LDp lo h) (hK : R a h L) (hn : narrow .boolean (.int a) = .int a) (hd : decode M.2.1 pc = .ok (.ireturn, 1)) (hr : M.2.2.2.1 = some .boolean) (hk : kc ≤ rm.cells ∧ ks ≤ rm.slots) : AWG X (zR rm g lo x0 R) M rm l g x0 kc ks (LW g lo h L) pc lv [.int a] := fun p e s m args below meth c B hX H locs ls hH hl =>
  W.widen hk.1 hk.2 (W.zret (hlocks := B.2.2.2.2.1) B.1 B.2.1 (by rw [B.2.2.2.1, hr]) hn (fun t ht hW => xr_end hH hD hK ht) hH.2.2.2.2 hd)
theorem agr_iretH {a : Int32} (hD : LDp lo h) (hK : R a h L) (hd : decode M.2.1 pc = .ok (.ireturn, 1)) (hr : M.2.2.2.1 = some .int) (hk : kc ≤ rm.cells ∧ ks ≤ rm.slots) : AWG X (zRH rm g lo x0 R) M rm l g x0 kc ks (LW g lo h L) pc lv [.int a] := fun p e s m args below meth c B hX H locs ls hH hl =>
  W.widen hk.1 hk.2 (vx_ret (W.iret (hlocks := B.2.2.2.2.1) B.1 B.2.1 (by rw [B.2.2.2.1, hr]) (fun t ht hW => xr_end hH hD hK ht) hH.2.2.2.2 hd))
theorem ar_iald (j n : Nat) {i : Int32} (hD : LDp lo h) (hj : lar[j]? = some (0, n)) (hj11 : j < 11) (hin : vp_in i n) (hd : decode M.2.1 pc = .ok (.iaload, 1))
    (kk : AWG X Z M rm l g x0 kc ks (LW g lo h L) (pc + 1) lv (.int (m_I L j i.toNatClampNeg) :: st)) : AWG X Z M rm l g x0 kc ks (LW g lo h L) pc lv (.int i :: .ref (lo + j) :: st) := ag_iald ((LW_ar hD hj11).trans (laA_i hj)) hin hd kk
theorem ar_lald (j n : Nat) {i : Int32} (hD : LDp lo h) (hj : lar[j]? = some (1, n)) (hj11 : j < 11) (hin : vp_in i n) (hd : decode M.2.1 pc = .ok (.laload, 1))
    (kk : AWG X Z M rm l g x0 kc ks (LW g lo h L) (pc + 1) lv (.long (m_J L j i.toNatClampNeg) :: st)) : AWG X Z M rm l g x0 kc ks (LW g lo h L) pc lv (.int i :: .ref (lo + j) :: st) := ag_lald ((LW_ar hD hj11).trans (laA_l hj)) hin hd kk
theorem ar_iast (j n : Nat) {i v : Int32} (hD : LDp lo h) (hj : lar[j]? = some (0, n)) (hj11 : j < 11) (hin : vp_in i n) (hd : decode M.2.1 pc = .ok (.iastore, 1))
    (kk : AWG X Z M rm l g x0 kc ks (LW g lo h (ms_I L j i.toNatClampNeg v)) (pc + 1) lv st) : AWG X Z M rm l g x0 kc ks (LW g lo h L) pc lv (.int v :: .int i :: .ref (lo + j) :: st) := by
  refine ag_iast ((LW_ar hD hj11).trans (laA_i hj)) hin hd ?_
  rw [LW_set (L := L) (L2 := ms_I L j i.toNatClampNeg v) hD hj11 (by rw [laA_i hj, m_I_up]) (fun q hq => ⟨x_up2_ne hq, rfl⟩)]; exact kk
theorem ar_last (j n : Nat) {i : Int32} {v : Int64} (hD : LDp lo h) (hj : lar[j]? = some (1, n)) (hj11 : j < 11) (hin : vp_in i n) (hd : decode M.2.1 pc = .ok (.lastore, 1))
    (kk : AWG X Z M rm l g x0 kc ks (LW g lo h (ms_J L j i.toNatClampNeg v)) (pc + 1) lv st) : AWG X Z M rm l g x0 kc ks (LW g lo h L) pc lv (.long v :: .int i :: .ref (lo + j) :: st) := by
  refine ag_last ((LW_ar hD hj11).trans (laA_l hj)) hin hd ?_
  rw [LW_set (L := L) (L2 := ms_J L j i.toNatClampNeg v) hD hj11 (by rw [laA_l hj, m_J_up]) (fun q hq => ⟨rfl, x_up2_ne hq⟩)]; exact kk
theorem ag_sld (hXs : ∀ (s : State) (args : Array Value) (c : Code), X s args c → va_X b Ls xs s s.heap) (hb0 : b < x0.1 ∧ x0.2 b = none) {i : Int32} (hin : vp_in i Ls) (hd : decode M.2.1 pc = .ok (.iaload, 1))
    (k : AWG X Z M rm l g x0 kc ks x (pc + 1) lv (.int (xs i.toNatClampNeg) :: st)) : AWG X Z M rm l g x0 kc ks x pc lv (.int i :: .ref b :: st) := fun p e s m args below meth c B hX H locs ls hH hl =>
  va_sld B.1 B.2.1 (hXs s args c hX) (by rw [B.2.2.2.2.2.2.2.2.1]; exact hb0.1) (fun h => h.elim (fun h => h hb0.2) (fun h => by omega)) hH.2.2 hin hd (k p e s m args below meth c B hX H locs ls hH hl)
theorem ag_slen (hXs : ∀ (s : State) (args : Array Value) (c : Code), X s args c → va_X b Ls xs s s.heap) (hb0 : b < x0.1 ∧ x0.2 b = none) (hd : decode M.2.1 pc = .ok (.arraylength, 1))
    (k : AWG X Z M rm l g x0 kc ks x (pc + 1) lv (.int (Int32.ofNat Ls) :: st)) : AWG X Z M rm l g x0 kc ks x pc lv (.ref b :: st) := fun p e s m args below meth c B hX H locs ls hH hl =>
  va_slen B.1 B.2.1 (hXs s args c hX) (by rw [B.2.2.2.2.2.2.2.2.1]; exact hb0.1) (fun h => h.elim (fun h => h hb0.2) (fun h => by omega)) hH.2.2 hd (k p e s m args below meth c B hX H locs ls hH hl)
/-- a call of one of the law's own methods -/
theorem ag_callR (hXS : ∀ (s : State) (args : Array Value) (c : Code), X s args c → xK s ∧ va_X b Ls xs s s.heap) (hb0 : b < x0.1 ∧ x0.2 b = none) (av : List Value) (n : Nat) (hc : RT y My rmy l g lo b Ls xs av x R) (hw : xCall M My rm rmy y index n) (hst : Cond.static y ∈ wt) (hd : decode M.2.1 pc = .ok (.invokestatic index, 3)) (hs : st = av.reverse ++ rest) (hn : av.length = n) (hr : (rest.map fun v => v.category).sum ≤ 8) (hR : rmy.frames + 1 ≤ rm.frames ∧ 8 + (My.2.2.1 + 11) + rmy.locals ≤ rm.locals) (hf : kc + rmy.cells ≤ rm.cells ∧ ks + rmy.slots ≤ rm.slots)
    (k : ∀ (v : Int32) (h2 : TH) (L2 : MS), R v h2 L2 → LDp lo h2 → AWG X Z M rm l g x0 (kc + rmy.cells) (ks + rmy.slots) (LW g lo h2 L2) (pc + 3) lv (.int v :: rest)) : AWG X Z M rm l g x0 kc ks x pc lv st := fun p e s m args below meth c B hX H locs ls hH hl => by
  intro T hT XX
  obtain ⟨v', st₀, t, T', L', e0, X', hL, e1, e2, ⟨v, h2, L2, hv, hK, hD2, hP, hD, hF⟩, st'⟩ := (va_runS (As := av) (rest := rest) (g := F0 m pc ls st) (xFix B) hc ⟨xCallB B hw hR, B.2.2.2.2.2.2.1 _ hst⟩ ⟨xPs.blind, xPs.at B (hXS s args c hX) hb0 hH av⟩ rfl hn hl.1 hs (lv_room hr) hd hf) T hT XX
  cases hv
  have hz := hH.size B.2.2.2.2.2.2.2.2.1
  have hup := xF.up hH.2.1 hz
  rw [va_F, e0] at hF
  have hH1 : xH g x0 (LW g lo h2 L2) s T'.heap (locs ++ L') := by
    refine ⟨by rw [e1]; exact hP, hH.2.1.trans hD hz, ?_, ?_, ?_⟩
    · rw [e1]; exact Nat.le_trans hH.2.2.1 hF.1
    · intro q h1 h2
      rw [e1, hF.2 q (Nat.lt_of_lt_of_le h1 hH.2.2.1) (fun z => h2 (hup q z))]
      exact hH.2.2.2.1 q h1 h2
    · intro q hq
      rcases List.mem_append.mp hq with h | h
      · exact hH.2.2.2.2 q h
      · exact hup _ (hL q h)
  obtain ⟨t2, a1, b1⟩ := k v h2 L2 hK hD2 p e s m args below meth c B hX T'.heap (locs ++ L') ls hH1 hl T' rfl X'
  exact ⟨t2, st' t2 a1, b1⟩
theorem ag_callRH (hXK : ∀ (s : State) (args : Array Value) (c : Code), X s args c → xK s) (av : List Value) (n : Nat) (hc : RTH y My hh rmy l g lo av x R) (hw : xCallW M My y hh index n) (hst : Cond.static y ∈ wt) (hd : decode M.2.1 pc = .ok (.invokestatic index, 3)) (hs : st = av.reverse ++ rest) (hn : av.length = n) (hr : (rest.map fun v => v.category).sum ≤ 8) (hR : rmy.frames + 1 ≤ rm.frames ∧ 8 + (My.2.2.1 + 11) + rmy.locals ≤ rm.locals) (hf : kc + rmy.cells ≤ rm.cells ∧ ks + rmy.slots ≤ rm.slots)
    (k : ∀ (v : Int32) (h2 : TH) (L2 : MS), R v h2 L2 → LDp lo h2 → AWG X Z M rm l g x0 (kc + rmy.cells) (ks + rmy.slots) (LW g lo h2 L2) (pc + 3) lv (.int v :: rest)) : AWG X Z M rm l g x0 kc ks x pc lv st := fun p e s m args below meth c B hX H locs ls hH hl => by
  intro T hT XX
  have hts := B.2.2.2.2.2.2.1
  have hcw : vx_CSW rm s args M.1 index y My.2.1 My.2.2.1 My.2.2.2.1 hh (.codeWith y My.2.1 My.2.2.1 My.2.2.2.1 hh :: wt) rmy rmy.cells rmy.slots n := by
    refine ⟨⟨rfl, rfl, hR.1, hR.2, pay_in hts (wtW_in hw.2.1), List.mem_cons_self⟩, hts _ hw.2.1, hts _ hw.2.2.1, ⟨hw.2.2.2.1, hw.2.2.2.2.1⟩, fun sig h => ?_, hts _ hw.1, hts _ hst⟩
    have h2 := hw.2.2.2.2.2
    rw [h] at h2
    exact (Option.some.inj h2).symm
  rcases (vx_runSX (As := av) (rest := rest) (g := F0 m pc ls st) (xFix B) hc hcw ⟨xPw.blind, xPw.at B (hXK s args c hX) hH av⟩ rfl hn hl.1 hs (lv_room hr) hd hf) T hT XX with ⟨v', st₀, t, T', L', e0, X', hL, e1, e2, ⟨v, h2, L2, hv, hK, hD2, hP, hD, hF⟩, st'⟩ | ⟨b, st₀, t, T', L', E', ce, e0, X', hL, e1, e2, hx, hce, hcv, hcl, st'⟩
  · cases hv
    have hz := hH.size B.2.2.2.2.2.2.2.2.1
    have hup := xF.up hH.2.1 hz
    rw [va_F, e0] at hF
    have hH1 : xH g x0 (LW g lo h2 L2) s T'.heap (locs ++ L') := by
      refine ⟨by rw [e1]; exact hP, hH.2.1.trans hD hz, ?_, ?_, ?_⟩
      · rw [e1]; exact Nat.le_trans hH.2.2.1 hF.1
      · intro q h1 h2
        rw [e1, hF.2 q (Nat.lt_of_lt_of_le h1 hH.2.2.1) (fun z => h2 (hup q z))]
        exact hH.2.2.2.1 q h1 h2
      · intro q hq
        rcases List.mem_append.mp hq with h | h
        · exact hH.2.2.2.2 q h
        · exact hup _ (hL q h)
    obtain ⟨t2, a1, b1⟩ := k v h2 L2 hK hD2 p e s m args below meth c B hX T'.heap (locs ++ L') ls hH1 hl T' rfl X'
    exact ⟨t2, st' t2 a1, b1⟩
  · exact hx.elim
end AGR
