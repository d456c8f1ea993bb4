/-! The law's calls of its wrappers. -/
theorem wtW_in {y : MethodName} {b : ByteArray} {n : Nat} {r : Option FieldType} {hh : List (Nat × Nat × Nat × Nat)} (h : Cond.codeWith y b n r hh ∈ wt) : GoodIn wt (.codeWith y b n r hh :: wt) := fun w hw => (List.mem_cons.mp hw).elim (fun e => by subst e; exact ⟨h, wt_good _ h⟩) (fun h => ⟨h, wt_good _ h⟩)
theorem xPw.blind {g : xG} {x : xV} {av : List Value} : FrameBlind (va_Pc av (xPw g x)) := by
  intro a U f mk h
  obtain ⟨h1, ⟨h2, h3, h4, h5⟩, h6⟩ := h
  exact ⟨h1, ⟨h2, va_K.moved (u := U) (U := U.calling f mk a) (Vm.Alike.refl U.vm) h3, h4.same rfl rfl, h5.same rfl⟩, h6.same rfl⟩
theorem xPw.at {M : xM} {l : Launch} {g : xG} {x0 x : xV} {o1 : Option Value ⊕ String} {p : Program} {s : State} {m : MethodId} {args : Array Value} {meth : Method} {c : Code} {H : Heap} {locs : List Loc} (B : xB M l g x0 o1 p s m args meth c) (hK : xK s) (hH : xH g x0 x s H locs) (av : List Value) : ∀ U : State, U.heap = H → s.WarmedH U.vm → va_Pc av (xPw g x) av.toArray U := fun U hU hW => ⟨rfl, (xPc.at B hH av U hU hW).2, hK.go hW⟩
abbrev xCallW (M My : xM) (y : MethodName) (hh : List (Nat × Nat × Nat × Nat)) (index n : Nat) : Prop := Cond.methodLink M.1 index y ∈ wt ∧ Cond.codeWith y My.2.1 My.2.2.1 My.2.2.2.1 hh ∈ wt ∧ Cond.initialized y.cls ∈ wt ∧ (y.cls ≠ "java/lang/invoke/MethodHandle" ∧ y.cls ≠ "java/lang/invoke/VarHandle" ∧ (parseMethodDescriptor y.desc).map (fun d => d.parameters.length) = some n)
section AGL
variable {X : xXT} {Z : xZT} {M My : xM} {rm rmy : Room} {l : Launch} {g : xG} {x0 : xV} {x2 : xV} {kc ks : Nat} {x : xV} {pc : Nat} {lv : List (Nat × Value)} {rest : List Value} {y : MethodName} {index : Nat} {hh : List (Nat × Nat × Nat × Nat)}
theorem agl_call (hXK : ∀ (s : State) (args : Array Value) (c : Code), X s args c → xK s) (av : List Value) (n : Nat) {v : Int32} (hc : WT y My hh rmy l g av x v x2) (hw : xCallW M My y hh index n) (hst : Cond.static y ∈ wt) (hd : decode M.2.1 pc = .ok (.invokestatic index, 3)) {st : List Value} (hs : st = av.reverse ++ rest) (hn : av.length = n) (hr : (rest.map fun v => v.category).sum ≤ 8) (hR : rmy.frames + 1 ≤ rm.frames ∧ 8 + (My.2.2.1 + 11) + rmy.locals ≤ rm.locals) (hf : kc + rmy.cells ≤ rm.cells ∧ ks + rmy.slots ≤ rm.slots)
    (k : ∀ z : Nat, x2.1 ≤ z → AWG X Z M rm l g x0 (kc + rmy.cells) (ks + rmy.slots) (z, x2.2) (pc + 3) lv (.int v :: rest)) : AWG X Z M rm l g x0 kc ks x pc lv st := fun p e s m args below meth c B hX H locs ls hH hl => by
  intro T hT XX
  have hts := B.2.2.2.2.2.2.1
  have hcw : vx_CSW rm s args M.1 index y My.2.1 My.2.2.1 My.2.2.2.1 hh (.codeWith y My.2.1 My.2.2.1 My.2.2.2.1 hh :: wt) rmy rmy.cells rmy.slots n := by
    refine ⟨⟨rfl, rfl, hR.1, hR.2, pay_in hts (wtW_in hw.2.1), List.mem_cons_self⟩, hts _ hw.2.1, hts _ hw.2.2.1, ⟨hw.2.2.2.1, hw.2.2.2.2.1⟩, fun sig h => ?_, hts _ hw.1, hts _ hst⟩
    have h2 := hw.2.2.2.2.2
    rw [h] at h2
    exact (Option.some.inj h2).symm
  rcases (vx_runSX (As := av) (rest := rest) (g := F0 m pc ls st) (xFix B) hc hcw ⟨xPw.blind, xPw.at B (hXK s args c hX) hH av⟩ rfl hn hl.1 hs (lv_room hr) hd hf) T hT XX with ⟨v', st₀, t, T', L, e0, X', hL, e1, e2, ⟨hv, ⟨z, hz1, hP⟩, hD, hF⟩, st'⟩ | ⟨b, st₀, t, T', L, E', ce, e0, X', hL, e1, e2, hx, hce, hcv, hcl, st'⟩
  · cases hv
    have hz := hH.size B.2.2.2.2.2.2.2.2.1
    have hup := xF.up hH.2.1 hz
    rw [va_F, e0] at hF
    have hH1 : xH g x0 (z, x2.2) s T'.heap (locs ++ L) := by
      refine ⟨by rw [e1]; exact hP, hH.2.1.trans hD hz, ?_, ?_, ?_⟩
      · rw [e1]; exact Nat.le_trans hH.2.2.1 hF.1
      · intro q h1 h2
        rw [e1, hF.2 q (Nat.lt_of_lt_of_le h1 hH.2.2.1) (fun z => h2 (hup q z))]
        exact hH.2.2.2.1 q h1 h2
      · intro q hq
        rcases List.mem_append.mp hq with h | h
        · exact hH.2.2.2.2 q h
        · exact hup _ (hL q h)
    obtain ⟨t2, a1, b1⟩ := k z hz1 p e s m args below meth c B hX T'.heap (locs ++ L) ls hH1 hl T' rfl X'
    exact ⟨t2, st' t2 a1, b1⟩
  · exact hx.elim
end AGL
section AGS
variable {X : xXT} {Z : xZT} {M : xM} {rm : Room} {l : Launch} {g : xG} {x0 : xV} {kc ks : Nat} {x : xV} {pc : Nat} {lv : List (Nat × Value)} {st : List Value}
theorem ag_sld {sc L : Nat} {xs : Nat → Int32} (hXs : ∀ (s : State) (args : Array Value) (c : Code), X s args c → va_X sc L xs s s.heap) (hsc : sc < x0.1) (hno : x0.2 sc = none) {i : Int32} (hin : vp_in i L) (hd : decode M.2.1 pc = .ok (.iaload, 1))
    (k : AWG X Z M rm l g x0 kc ks x (pc + 1) lv (.int (xs i.toNatClampNeg) :: st)) : AWG X Z M rm l g x0 kc ks x pc lv (.int i :: .ref sc :: st) := fun p e s m args below meth c B hX H locs ls hH hl =>
  va_sld B.1 B.2.1 (hXs s args c hX) (by rw [B.2.2.2.2.2.2.2.2.1]; exact hsc) (fun h => h.elim (fun h => h hno) (fun h => by omega)) hH.2.2 hin hd (k p e s m args below meth c B hX H locs ls hH hl)
theorem ag_slen {sc L : Nat} {xs : Nat → Int32} (hXs : ∀ (s : State) (args : Array Value) (c : Code), X s args c → va_X sc L xs s s.heap) (hsc : sc < x0.1) (hno : x0.2 sc = none) (hd : decode M.2.1 pc = .ok (.arraylength, 1))
    (k : AWG X Z M rm l g x0 kc ks x (pc + 1) lv (.int (Int32.ofNat L) :: st)) : AWG X Z M rm l g x0 kc ks x pc lv (.ref sc :: st) := fun p e s m args below meth c B hX H locs ls hH hl =>
  va_slen B.1 B.2.1 (hXs s args c hX) (by rw [B.2.2.2.2.2.2.2.2.1]; exact hsc) (fun h => h.elim (fun h => h hno) (fun h => by omega)) hH.2.2 hd (k p e s m args below meth c B hX H locs ls hH hl)
theorem ag_tabIn (tgt : Nat) {dflt lo hi : Int} {offs : Array Int} {len : Nat} {a : Int32} {off : Int} (hd : decode M.2.1 pc = .ok (.tableswitch dflt lo hi offs, len)) (h1 : ¬ a.toInt < lo) (h2 : ¬ hi < a.toInt) (ho : offs[(a.toInt - lo).toNat]? = some off) (ht : (pc : Int) + off = (tgt : Int))
    (k : AWG X Z M rm l g x0 kc ks x tgt lv st) : AWG X Z M rm l g x0 kc ks x pc lv (.int a :: st) := fun p e s m args below meth c B hX H locs ls hH hl =>
  lv_tableIn B.1 B.2.1 hd h1 h2 ho ht (k p e s m args below meth c B hX H locs ls hH hl)
theorem ag_tabOut (tgt : Nat) {dflt lo hi : Int} {offs : Array Int} {len : Nat} {a : Int32} (hd : decode M.2.1 pc = .ok (.tableswitch dflt lo hi offs, len)) (h : a.toInt < lo ∨ hi < a.toInt) (ht : (pc : Int) + dflt = (tgt : Int))
    (k : AWG X Z M rm l g x0 kc ks x tgt lv st) : AWG X Z M rm l g x0 kc ks x pc lv (.int a :: st) := fun p e s m args below meth c B hX H locs ls hH hl =>
  lv_tableOut B.1 B.2.1 hd h ht (k p e s m args below meth c B hX H locs ls hH hl)
end AGS
