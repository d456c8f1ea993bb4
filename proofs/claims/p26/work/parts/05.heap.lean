/-! The heap's rows over any world. -/
def xUp (x : xV) (a : Nat) (e : va_E) : xV := (x.1, fun q => if q = a then some e else x.2 q)
def xNew (x : xV) (e : va_E) : xV := (x.1 + 1, fun q => if q = x.1 then some e else x.2 q)
section AWH
variable {M : xM} {rm : Room} {l : Launch} {g : xG} {x0 : xV} {o1 : Option Value ⊕ String} {x1 : xV} {kc ks : Nat} {x : xV} {pc : Nat} {lv : List (Nat × Value)} {st : List Value}
variable {p : Program} {e : Env} {s : State} {m : MethodId} {args : Array Value} {below : List Frame} {meth : Method} {c : Code} {H : Heap} {locs : List Loc} {ls : Array Slot} {Q : State → Prop}
theorem xP1 {a : Nat} {e : va_E} (h : xP g x H) (ha : x.2 a = some e) : va_P g.1 vwCl [(a, e)] H := fun k q hq => by
  cases k with
  | zero => cases hq; exact h.2 a e ha
  | succ k => cases hq
theorem xP.up {a : Nat} {e e' : va_E} {H1 : Heap} (h : xP g x H) (hz : H1.size = H.size) (ho : ∀ q, q ≠ a → H1[q]? = H[q]?) (hn : va_at g.1 vwCl (a, e') H1) : xP g (xUp x a e') H1 := by
  refine ⟨by rw [hz]; exact h.1, fun q e2 hq => ?_⟩
  by_cases hqa : q = a
  · subst hqa
    simp only [xUp, if_true] at hq
    cases hq
    exact hn
  · simp only [xUp, if_neg hqa] at hq
    exact (h.2 q e2 hq).kept (ho q hqa)
theorem xH.up {a i : Nat} {e e' : va_E} {H1 : Heap} (h : xH g x0 x s H locs) (ha : x.2 a = some e) (hz : H1.size = H.size) (ho : ∀ q, q ≠ a → H1[q]? = H[q]?) (hn : va_at g.1 vwCl (a, e') H1) : xH g x0 (xUp x a e') s H1 (locs ++ [⟨a, i⟩]) := by
  refine ⟨h.1.up (e := e) hz ho hn, fun q hq => ?_, h.2.2.put hz ho (h.2.1 a (by rw [ha]; exact fun z => by cases z))⟩
  by_cases hqa : q = a
  · subst hqa; exact h.2.1 q (by rw [ha]; exact fun z => by cases z)
  · simp only [xUp, if_neg hqa] at hq; exact h.2.1 q hq
theorem xH.new {e' : va_E} {H1 : Heap} (h : xH g x0 x s H locs) (h0 : s.heap.size = x0.1) (hz : H1.size = H.size + 1) (ho : ∀ q, q < H.size → H1[q]? = H[q]?) (hn : va_at g.1 vwCl (H.size, e') H1) : xH g x0 (xNew x e') s H1 locs := by
  have hs := h.1.1
  refine ⟨⟨by rw [hz, hs]; rfl, fun q e2 hq => ?_⟩, fun q hq => ?_, Nat.le_trans h.2.2.1 (by omega), fun q h1 h2 => (ho q (Nat.lt_of_lt_of_le h1 h.2.2.1)).trans (h.2.2.2.1 q h1 h2), h.2.2.2.2⟩
  · by_cases hqa : q = x.1
    · simp only [xNew, if_pos hqa] at hq
      cases hq
      rw [hqa, ← hs]; exact hn
    · simp only [xNew, if_neg hqa] at hq
      exact (h.1.2 q e2 hq).kept (ho q (h.1.lt (by rw [hq]; exact fun z => by cases z)))
  · by_cases hqa : q = x.1
    · exact Or.inr (by rw [hqa]; exact h.size h0)
    · simp only [xNew, if_neg hqa] at hq; exact h.2.1 q hq
theorem aw_getf {a ci k index N : Nat} {fs : List Value} {C : String} {T : u_T} {v : Value} (ha : x.2 a = some (.inr (ci, fs))) (hc : vwCl[ci]? = some (C, T, N)) (hin : ∀ w ∈ u_ws C T N, w ∈ wt) (hk : k < N) (hl0 : Cond.fieldLink M.1 index (T k).1 (T k).2.1 (T k).2.2.1 ∈ wt) (hv : fs[k]? = some v) (hd : decode M.2.1 pc = .ok (.getfield index, 3))
    (kk : AW M rm l g x0 o1 x1 kc ks x (pc + 3) lv (v :: st)) : AW M rm l g x0 o1 x1 kc ks x pc lv (.ref a :: st) := fun p e s m args below meth c B H locs ls hH hl =>
  va_get (ws := [(a, .inr (ci, fs))]) B.1 B.2.1 B.2.2.2.2.2.2.1 hin B.2.2.2.2.2.1 B.2.2.2.2.2.2.2.1 (xP1 hH.1 ha) 0 rfl hc k hk (B.2.2.2.2.2.2.1 _ hl0) (fun _ h => h) hv hd (kk p e s m args below meth c B H locs ls hH hl)
theorem aw_getfN {a ci k index N : Nat} {fs : List Value} {C host : String} {T : u_T} {v : Value} (ha : x.2 a = some (.inr (ci, fs))) (hc : vwCl[ci]? = some (C, T, N)) (hin : ∀ w ∈ u_ws C T N, w ∈ wt) (hk : k < N) (hl0 : Cond.fieldLinkNest M.1 index (T k).1 (T k).2.1 (T k).2.2.1 host ∈ lw_tbl) (hv : fs[k]? = some v) (hd : decode M.2.1 pc = .ok (.getfield index, 3))
    (kk : AW M rm l g x0 o1 x1 kc ks x (pc + 3) lv (v :: st)) : AW M rm l g x0 o1 x1 kc ks x pc lv (.ref a :: st) := fun p e s m args below meth c B H locs ls hH hl =>
  va_getN (ws := [(a, .inr (ci, fs))]) B.1 B.2.1 B.2.2.2.2.2.2.1 hin B.2.2.2.2.2.1 B.2.2.2.2.2.2.2.1 (xP1 hH.1 ha) 0 rfl hc k hk (va_Nw.use rfl (B.2.2.2.2.2.2.2.2.2.2.1.2 _ hl0 rfl)) (fun _ h => h) hv hd (kk p e s m args below meth c B H locs ls hH hl)
/-- what a store into a field wants to know of the class -/
abbrev xPut (ci k N : Nat) (C : String) (T : u_T) (ty0 : Nat → FieldType) (fs : List Value) (ty : FieldType) (v : Value) : Prop := vwCl[ci]? = some (C, T, N) ∧ (∀ w ∈ u_ws C T N, w ∈ wt) ∧ (∀ k, k < N → parseFieldDescriptor (T k).2.2.1 = some (ty0 k)) ∧ (∀ a, a < N → ∀ b, b < N → a ≠ b → (T a).2.1 ≠ (T b).2.1) ∧ k < N ∧ parseFieldDescriptor (T k).2.2.1 = some ty ∧ narrow ty v = v ∧ fits ty v = true ∧ k < fs.length
theorem xOB {a ci k N : Nat} {fs : List Value} {C : String} {T : u_T} {ty0 : Nat → FieldType} {ty : FieldType} {v : Value} (B : xB M l g x0 o1 p s m args meth c) (hp : xPut ci k N C T ty0 fs ty v) {H1 : Heap} {cell : Cell} (q2 : cell.cls = g.1.1 ci) (q3 : cell.vm = .none) (q4 : ∀ j, j < N → cell.slots[g.1.2 ci j]? = some (vp_V fs j)) (e1 : H1[a]? = some (cell.setSlot (g.1.2 ci k) v)) : va_at g.1 vwCl (a, .inr (ci, fs.set k v)) H1 := by
  obtain ⟨hc, hin, hty, hnm, hk, hdd, hn, hfit, hl⟩ := hp
  have hap := va_apart (own := M.1) B.2.2.2.2.2.2.1 hin ty0 hty hnm B.2.2.2.2.2.2.2.1 hc
  exact ⟨_, hc, t_OB.to (V := updV (vp_V fs) k v) ⟨_, e1, q2, q3, t_set q4 hap hk v⟩ (fun j _ => vp_updV_set hl v j)⟩
theorem aw_putf {a ci k index N : Nat} {fs : List Value} {C : String} {T : u_T} {ty0 : Nat → FieldType} {ty : FieldType} {v : Value} (ha : x.2 a = some (.inr (ci, fs))) (hp : xPut ci k N C T ty0 fs ty v) (hl0 : Cond.fieldLink M.1 index (T k).1 (T k).2.1 (T k).2.2.1 ∈ wt) (hfin : (T k).2.2.2 = false) (hd : decode M.2.1 pc = .ok (.putfield index, 3))
    (kk : AW M rm l g x0 o1 x1 kc ks (xUp x a (.inr (ci, fs.set k v))) (pc + 3) lv st) : AW M rm l g x0 o1 x1 kc ks x pc lv (v :: .ref a :: st) := fun p e s m args below meth c B H locs ls hH hl => by
  have hts := B.2.2.2.2.2.2.1
  have hB := @xOB M l g x0 o1 p s m args meth c a ci k N fs C T ty0 ty v B hp
  obtain ⟨hc, hin, hty, hnm, hk, hdd, hn, hfit, hl1⟩ := hp
  obtain ⟨r, h1, cell, q1, q2, q3, q4⟩ := hH.1.2 a _ ha
  have hr : r = (C, T, N) := Option.some.inj (h1.symm.trans hc)
  subst hr
  obtain ⟨hS, hfc, kC, hkC, hkind⟩ := B.2.2.2.2.2.2.2.1.1 ci _ hc
  obtain ⟨cf, kf, fi, f, hi, hsl⟩ := hS k hk
  have hlay := hts _ (hin _ (u_in_lay hk))
  unfold u_lay at hlay
  rw [if_neg (by rw [hfin]; decide)] at hlay
  have hst := (u_facts hfc hkC (u_lays hts hin hk) hi).1
  have h6 := u_store hfc hkC hkind hlay hi hdd hn hfit
  refine W.putK B.1 B.2.1 (f := f) ⟨B.2.2.2.2.2.1, hts _ hl0, ⟨_, _, _, hi⟩, hst⟩ (by rw [q2]; exact h6) q1 q3 (by rw [hsl]; exact k2_hasslot (q4 k hk)) rfl rfl hd fun H1 e1 e2 e3 => ?_
  rw [hsl] at e1
  exact kk p e s m args below meth c B H1 _ ls (hH.up ha e2 e3 (hB q2 q3 q4 e1)) hl
theorem aw_putfN {a ci k index N : Nat} {fs : List Value} {C host : String} {T : u_T} {ty0 : Nat → FieldType} {ty : FieldType} {v : Value} (ha : x.2 a = some (.inr (ci, fs))) (hp : xPut ci k N C T ty0 fs ty v) (hl0 : Cond.fieldLinkNest M.1 index (T k).1 (T k).2.1 (T k).2.2.1 host ∈ lw_tbl) (hfin : (T k).2.2.2 = false) (hd : decode M.2.1 pc = .ok (.putfield index, 3))
    (kk : AW M rm l g x0 o1 x1 kc ks (xUp x a (.inr (ci, fs.set k v))) (pc + 3) lv st) : AW M rm l g x0 o1 x1 kc ks x pc lv (v :: .ref a :: st) := fun p e s m args below meth c B H locs ls hH hl => by
  have hts := B.2.2.2.2.2.2.1
  have hB := @xOB M l g x0 o1 p s m args meth c a ci k N fs C T ty0 ty v B hp
  obtain ⟨hc, hin, hty, hnm, hk, hdd, hn, hfit, hl1⟩ := hp
  obtain ⟨r, h1, cell, q1, q2, q3, q4⟩ := hH.1.2 a _ ha
  have hr : r = (C, T, N) := Option.some.inj (h1.symm.trans hc)
  subst hr
  obtain ⟨hS, hfc, kC, hkC, hkind⟩ := B.2.2.2.2.2.2.2.1.1 ci _ hc
  obtain ⟨cf, kf, fi, f, hi, hsl⟩ := hS k hk
  have hlay := hts _ (hin _ (u_in_lay hk))
  unfold u_lay at hlay
  rw [if_neg (by rw [hfin]; decide)] at hlay
  have hst := (u_facts hfc hkC (u_lays hts hin hk) hi).1
  have h6 := u_store hfc hkC hkind hlay hi hdd hn hfit
  refine va_WputK B.1 B.2.1 (f := f) B.2.2.2.2.2.1 (va_Nw.use rfl (B.2.2.2.2.2.2.2.2.2.2.1.2 _ hl0 rfl)) hi hst (by rw [q2]; exact h6) q1 q3 (by rw [hsl]; exact k2_hasslot (q4 k hk)) rfl rfl hd fun H1 e1 e2 e3 => ?_
  rw [hsl] at e1
  exact kk p e s m args below meth c B H1 _ ls (hH.up ha e2 e3 (hB q2 q3 q4 e1)) hl
/-- into a final field, in a constructor -/
theorem aw_putfF {a ci k index N : Nat} {fs : List Value} {C : String} {T : u_T} {ty0 : Nat → FieldType} {ty : FieldType} {v : Value} (ha : x.2 a = some (.inr (ci, fs))) (hp : xPut ci k N C T ty0 fs ty v) (hl0 : Cond.fieldLink M.1 index (T k).1 (T k).2.1 (T k).2.2.1 ∈ wt) (hfin : (T k).2.2.2 = true) (hnm0 : M.2.2.2.2 = "<init>") (hdc : (T k).1 = M.1) (hd : decode M.2.1 pc = .ok (.putfield index, 3))
    (kk : AW M rm l g x0 o1 x1 kc ks (xUp x a (.inr (ci, fs.set k v))) (pc + 3) lv st) : AW M rm l g x0 o1 x1 kc ks x pc lv (v :: .ref a :: st) := fun p e s m args below meth c B H locs ls hH hl => by
  have hts := B.2.2.2.2.2.2.1
  have hB := @xOB M l g x0 o1 p s m args meth c a ci k N fs C T ty0 ty v B hp
  obtain ⟨hc, hin, hty, hnm, hk, hdd, hn, hfit, hl1⟩ := hp
  obtain ⟨r, h1, cell, q1, q2, q3, q4⟩ := hH.1.2 a _ ha
  have hr : r = (C, T, N) := Option.some.inj (h1.symm.trans hc)
  subst hr
  obtain ⟨hS, hfc, kC, hkC, hkind⟩ := B.2.2.2.2.2.2.2.1.1 ci _ hc
  obtain ⟨cf, kf, fi, f, hi, hsl⟩ := hS k hk
  have hlay := hts _ (hin _ (u_in_lay hk))
  unfold u_lay at hlay
  rw [if_pos hfin] at hlay
  have hst := (u_facts hfc hkC (u_lays hts hin hk) hi).1
  have hcf : m.cls = cf := by
    obtain ⟨_, _, c', _, _, _, -, -, hf', -, -, -, hown2, -⟩ := Cond.laysFinal_spec hlay
    have e1 : c' = cf := by have := hi.symm.trans hf'; simp at this; exact this.1.symm
    rw [hdc] at hown2
    rw [← e1]; exact Option.some.inj (B.2.2.2.2.2.1.symm.trans hown2)
  have h6 := u_fits hfc hkC hkind (Or.inr hlay) hi hdd hn hfit
  refine W.putFinK B.1 B.2.1 B.2.2.2.2.2.1 (hts _ hl0) hi hst hcf (B.2.2.2.2.2.2.2.2.2.1.trans hnm0) (by rw [q2]; exact h6) q1 q3 (by rw [hsl]; exact k2_hasslot (q4 k hk)) rfl rfl hd fun H1 e1 e2 e3 => ?_
  rw [hsl] at e1
  exact kk p e s m args below meth c B H1 _ ls (hH.up ha e2 e3 (hB q2 q3 q4 e1)) hl
-- arrays
theorem aw_iald {a n : Nat} {f : Nat → Int32} {i : Int32} (ha : x.2 a = some (.inl (g.2.1, n, .inl f))) (hin : vp_in i n) (hd : decode M.2.1 pc = .ok (.iaload, 1))
    (kk : AW M rm l g x0 o1 x1 kc ks x (pc + 1) lv (.int (f i.toNatClampNeg) :: st)) : AW M rm l g x0 o1 x1 kc ks x pc lv (.int i :: .ref a :: st) := fun p e s m args below meth c B H locs ls hH hl =>
  va_iald (ws := [(a, .inl (g.2.1, n, .inl f))]) B.1 B.2.1 B.2.2.2.2.2.2.2.1 (xP1 hH.1 ha) 0 0 rfl rfl hin hd (kk p e s m args below meth c B H locs ls hH hl)
theorem aw_lald {a n : Nat} {f : Nat → Int64} {i : Int32} (ha : x.2 a = some (.inl (g.2.2.1, n, .inr (.inl f)))) (hin : vp_in i n) (hd : decode M.2.1 pc = .ok (.laload, 1))
    (kk : AW M rm l g x0 o1 x1 kc ks x (pc + 1) lv (.long (f i.toNatClampNeg) :: st)) : AW M rm l g x0 o1 x1 kc ks x pc lv (.int i :: .ref a :: st) := fun p e s m args below meth c B H locs ls hH hl =>
  va_lald (ws := [(a, .inl (g.2.2.1, n, .inr (.inl f)))]) B.1 B.2.1 B.2.2.2.2.2.2.2.1 (xP1 hH.1 ha) 0 1 rfl rfl hin hd (kk p e s m args below meth c B H locs ls hH hl)
theorem aw_aald (t : Nat) {a n : Nat} {f : Nat → Option Nat} {i : Int32} {cA : ClassId} {C : String} (ha : x.2 a = some (.inl (cA, n, .inr (.inr (.inr (.inr f)))))) (ht : (xTys g)[t]? = some (cA, .object C)) (hin : vp_in i n) (hd : decode M.2.1 pc = .ok (.aaload, 1))
    (kk : AW M rm l g x0 o1 x1 kc ks x (pc + 1) lv (va_rf (f i.toNatClampNeg) :: st)) : AW M rm l g x0 o1 x1 kc ks x pc lv (.int i :: .ref a :: st) := fun p e s m args below meth c B H locs ls hH hl =>
  va_aldq (ws := [(a, .inl (cA, n, .inr (.inr (.inr (.inr f)))))]) B.1 B.2.1 B.2.2.2.2.2.2.2.1 (xP1 hH.1 ha) 0 t rfl ht hin hd (kk p e s m args below meth c B H locs ls hH hl)
theorem aw_alen (t : Nat) {a : Nat} {y : vp_A} {cA : ClassId} {ty : FieldType} (ha : x.2 a = some (.inl (cA, y))) (ht : (xTys g)[t]? = some (cA, ty)) (hd : decode M.2.1 pc = .ok (.arraylength, 1))
    (kk : AW M rm l g x0 o1 x1 kc ks x (pc + 1) lv (.int (nI y.1) :: st)) : AW M rm l g x0 o1 x1 kc ks x pc lv (.ref a :: st) := fun p e s m args below meth c B H locs ls hH hl =>
  va_alen (ws := [(a, .inl (cA, y))]) B.1 B.2.1 B.2.2.2.2.2.2.2.1 (xP1 hH.1 ha) 0 t rfl ht rfl hd (kk p e s m args below meth c B H locs ls hH hl)
theorem aw_iast {a n : Nat} {f : Nat → Int32} {i y : Int32} (ha : x.2 a = some (.inl (g.2.1, n, .inl f))) (hin : vp_in i n) (hd : decode M.2.1 pc = .ok (.iastore, 1))
    (kk : AW M rm l g x0 o1 x1 kc ks (xUp x a (.inl (g.2.1, n, .inl (upd f i.toNatClampNeg y)))) (pc + 1) lv st) : AW M rm l g x0 o1 x1 kc ks x pc lv (.int y :: .int i :: .ref a :: st) := fun p e s m args below meth c B H locs ls hH hl => by
  refine W.iast B.1 B.2.1 (hH.1.2 a _ ha) ((B.2.2.2.2.2.2.2.1.2 0 _ rfl).1 n (fun j => .int (f j))) (fun q => by cases q) (by show ¬ (i < 0 ∨ (arrV _ _ _).slots.size ≤ _); rw [arrV_size]; exact hin) rfl rfl hd fun H1 e1 z oq => ?_
  refine kk p e s m args below meth c B H1 _ ls (hH.up ha z oq ?_) hl
  show H1[a]? = some (vp_cell _ _)
  rw [e1, vp_cell_i, vp_cell_i, arrV_store]
  congr 2
  funext q
  by_cases hq : q = i.toNatClampNeg
  · subst hq; simp [updV, upd]
  · simp [updV, upd, hq]
theorem aw_last {a n : Nat} {f : Nat → Int64} {i : Int32} {y : Int64} (ha : x.2 a = some (.inl (g.2.2.1, n, .inr (.inl f)))) (hin : vp_in i n) (hd : decode M.2.1 pc = .ok (.lastore, 1))
    (kk : AW M rm l g x0 o1 x1 kc ks (xUp x a (.inl (g.2.2.1, n, .inr (.inl (vp_updL f i.toNatClampNeg y))))) (pc + 1) lv st) : AW M rm l g x0 o1 x1 kc ks x pc lv (.long y :: .int i :: .ref a :: st) := fun p e s m args below meth c B H locs ls hH hl => by
  refine W.last B.1 B.2.1 (hH.1.2 a _ ha) ((B.2.2.2.2.2.2.2.1.2 1 _ rfl).1 n (fun j => .long (f j))) (fun q => by cases q) (by show ¬ (i < 0 ∨ (arrV _ _ _).slots.size ≤ _); rw [arrV_size]; exact hin) rfl rfl hd fun H1 e1 z oq => ?_
  refine kk p e s m args below meth c B H1 _ ls (hH.up ha z oq ?_) hl
  show H1[a]? = some (vp_cell _ _)
  rw [e1, vp_cell_l, vp_cell_l, arrV_store]
  congr 2
  funext q
  by_cases hq : q = i.toNatClampNeg
  · subst hq; simp [updV, vp_updL]
  · simp [updV, vp_updL, hq]
theorem aw_aast (t ci : Nat) {a b n : Nat} {f : Nat → Option Nat} {vs : List Value} {i : Int32} {cA : ClassId} {r : vw_C} (ha : x.2 a = some (.inl (cA, n, .inr (.inr (.inr (.inr f)))))) (ht : (xTys g)[t]? = some (cA, .object r.1)) (hb : x.2 b = some (.inr (ci, vs))) (hc : vwCl[ci]? = some r) (hin : vp_in i n) (hd : decode M.2.1 pc = .ok (.aastore, 1))
    (kk : AW M rm l g x0 o1 x1 kc ks (xUp x a (.inl (cA, n, .inr (.inr (.inr (.inr (va_up f i.toNatClampNeg (some b)))))))) (pc + 1) lv st) : AW M rm l g x0 o1 x1 kc ks x pc lv (.ref b :: .int i :: .ref a :: st) := fun p e s m args below meth c B H locs ls hH hl => by
  have hlt : i.toNatClampNeg < n := Nat.not_le.mp fun q => hin (Or.inr q)
  have h0 : ¬ i < 0 := fun q => hin (Or.inl q)
  have hK := B.2.2.2.2.2.2.2.1
  obtain ⟨r', hr', cellV, g1, g2, g3, -⟩ := hH.1.2 b _ hb
  have hcls := (hK.1 ci r hc).2
  obtain ⟨kA, comp, k1, k2, k3, -⟩ := (hK.2 t _ ht).2
  have hcomp : comp = g.1.1 ci := Option.some.inj (k3.symm.trans hcls.1)
  subst hcomp
  obtain ⟨kC, hkC, -⟩ := id hcls.2
  refine W.aast B.1 B.2.1 (hH.1.2 a _ ha) (fun q h => by cases h) (fun h => by cases h) k1 k2 rfl hkC ⟨h0, by show _ < (arrV _ _ _).slots.size; rw [arrV_size]; exact hlt⟩ g1 (fun q h => by rw [g3] at h; cases h) (by rw [g2]; exact hkC) (by rw [g2]; exact va_assign hcls) rfl rfl hd fun H1 e1 z oq => ?_
  refine kk p e s m args below meth c B H1 _ ls (hH.up ha z oq ?_) hl
  show H1[a]? = some (vp_cell _ _)
  rw [e1, vp_cell_q, vp_cell_q, arrV_store]
  congr 2
  funext q
  by_cases hq : q = i.toNatClampNeg
  · subst hq; simp [updV, va_up, va_rf]
  · simp [updV, va_up, hq]
theorem aw_aastN (t : Nat) {a n : Nat} {f : Nat → Option Nat} {i : Int32} {cA : ClassId} {C : String} (ha : x.2 a = some (.inl (cA, n, .inr (.inr (.inr (.inr f)))))) (ht : (xTys g)[t]? = some (cA, .object C)) (hin : vp_in i n) (hd : decode M.2.1 pc = .ok (.aastore, 1))
    (kk : AW M rm l g x0 o1 x1 kc ks (xUp x a (.inl (cA, n, .inr (.inr (.inr (.inr (va_up f i.toNatClampNeg none))))))) (pc + 1) lv st) : AW M rm l g x0 o1 x1 kc ks x pc lv (.null :: .int i :: .ref a :: st) := fun p e s m args below meth c B H locs ls hH hl => by
  refine va_WaastN (C := C) B.1 B.2.1 (hH.1.2 a _ ha) ((B.2.2.2.2.2.2.2.1.2 t _ ht).1 n (fun j => va_rf (f j))) (fun h => by cases h) (by show ¬ (i < 0 ∨ (arrV _ _ _).slots.size ≤ _); rw [arrV_size]; exact hin) rfl rfl hd fun H1 e1 z oq => ?_
  refine kk p e s m args below meth c B H1 _ ls (hH.up ha z oq ?_) hl
  show H1[a]? = some (vp_cell _ _)
  rw [e1, vp_cell_q, vp_cell_q, arrV_store]
  congr 2
  funext q
  by_cases hq : q = i.toNatClampNeg
  · subst hq; simp [updV, va_up, va_rf]
  · simp [updV, va_up, hq]
-- what is made
theorem aw_new {ci N index : Nat} {C : String} {T : u_T} {ty0 : Nat → FieldType} (fs : List Value) (hc : vwCl[ci]? = some (C, T, N)) (hin : ∀ w ∈ u_ws C T N, w ∈ wt) (hty : ∀ k, k < N → parseFieldDescriptor (T k).2.2.1 = some (ty0 k)) (hcl : Cond.classLink M.1 index C ∈ wt) (hinst : Cond.instantiable C N ∈ wt) (hini : Cond.initialized C ∈ wt) (hfs : ∀ j, j < N → defaultValue (ty0 j) = vp_V fs j) (hf : kc + 1 ≤ rm.cells ∧ ks + N ≤ rm.slots) (hd : decode M.2.1 pc = .ok (.new index, 3))
    (kk : AW M rm l g x0 o1 x1 (kc + 1) (ks + N) (xNew x (.inr (ci, fs))) (pc + 3) lv (.ref x.1 :: st)) : AW M rm l g x0 o1 x1 kc ks x pc lv st := fun p e s m args below meth c B H locs ls hH hl => by
  have hts := B.2.2.2.2.2.2.1
  have hKn := B.2.2.2.2.2.2.2.1.1 ci _ hc
  refine W.newcK B.1 B.2.1 B.2.2.2.2.2.1 (hts _ hcl) (hts _ hinst) (hts _ hini) rfl hd hf.1 hf.2 hKn.2.1 rfl fun H1 kC hkC e1 z1 o1 => ?_
  rw [hH.1.1]
  refine kk p e s m args below meth c B H1 locs ls (hH.new B.2.2.2.2.2.2.2.2.1 z1 o1 ⟨_, hc, ?_⟩) hl
  exact (u_born ty0 hts hin hKn hkC e1 hty).to hfs
theorem xArr {ty : FieldType} {cA cB : ClassId} {t : Nat} (hK : va_K g.1 vwCl (xTys g) s) (ht : (xTys g)[t]? = some (cB, ty)) (hp : ty = .int ∨ ty = .long ∨ ty = .boolean) (h : s.vm.findClass ("[" ++ ty.toString) = some cA) : cA = cB := by
  have h2 := (hK.2 t _ ht).2
  rcases hp with rfl | rfl | rfl <;> exact Option.some.inj (h.symm.trans h2)
theorem aw_newa (t : Nat) {atype : ArrayType} {ty : FieldType} {cB : ClassId} {n : Int32} {N : Nat} {a0 : vp_A} (hty : newarray.typeOf atype = ty) (hp : ty = .int ∨ ty = .long ∨ ty = .boolean) (ht : (xTys g)[t]? = some (cB, ty)) (harr : Cond.arrayClass ty ∈ wt) (ha : vp_cell cB a0 = arrV cB N (fun _ => defaultValue ty)) (hn : ¬ n < 0) (hN : n.toNatClampNeg = N) (hbytes : N * componentBytes ty ≤ 536870912) (hf : kc + 1 ≤ rm.cells ∧ ks + N ≤ rm.slots) (hd : decode M.2.1 pc = .ok (.newarray atype, 2))
    (kk : AW M rm l g x0 o1 x1 (kc + 1) (ks + N) (xNew x (.inl (cB, a0))) (pc + 2) lv (.ref x.1 :: st)) : AW M rm l g x0 o1 x1 kc ks x pc lv (.int n :: st) := fun p e s m args below meth c B H locs ls hH hl => by
  subst hty
  have hts := B.2.2.2.2.2.2.1
  refine va_newaK B.1 B.2.1 (hts _ harr) rfl hd rfl hn hN hbytes hf.1 hf.2 rfl fun H1 cA e1 z1 o1 hAr hNm => ?_
  have hcc : cA = cB := xArr B.2.2.2.2.2.2.2.1 ht hp hNm
  subst hcc
  rw [hH.1.1]
  refine kk p e s m args below meth c B H1 locs ls (hH.new B.2.2.2.2.2.2.2.2.1 z1 o1 ?_) hl
  show H1[H.size]? = some (vp_cell _ _)
  rw [ha]; exact e1
theorem aw_newq (t : Nat) {index : Nat} {C : String} {cB : ClassId} {n : Int32} {N : Nat} (hC : C = RX3 ∨ C = RX7) (ht : (xTys g)[t]? = some (cB, .object C)) (hcl : Cond.classLink M.1 index C ∈ wt) (hn : ¬ n < 0) (hN : n.toNatClampNeg = N) (hbytes : N * 4 ≤ 536870912) (hf : kc + 1 ≤ rm.cells ∧ ks + N ≤ rm.slots) (hd : decode M.2.1 pc = .ok (.anewarray index, 3))
    (kk : AW M rm l g x0 o1 x1 (kc + 1) (ks + N) (xNew x (.inl (cB, N, .inr (.inr (.inr (.inr (fun _ => none))))))) (pc + 3) lv (.ref x.1 :: st)) : AW M rm l g x0 o1 x1 kc ks x pc lv (.int n :: st) := fun p e s m args below meth c B H locs ls hH hl => by
  subst hN
  have hts := B.2.2.2.2.2.2.1
  have hI := B.2.2.2.2.2.2.2.2.2.2.1.1
  have hover : va_AO C s := by rcases hC with rfl | rfl; exact hI.2.1; exact hI.2.2.1
  refine W.anew B.1 B.2.1 B.2.2.2.2.2.1 (hts _ hcl) (va_AO.use hover) rfl hd rfl hn hbytes hf.1 hf.2 fun cA kA comp f1 f2 f3 f4 => ?_
  have hcc : cA = cB := by
    obtain ⟨-, kB, comp2, -, -, -, h4⟩ := B.2.2.2.2.2.2.2.1.2 t _ ht
    exact Option.some.inj (f1.symm.trans h4)
  subst hcc
  rw [hH.1.1]
  refine kk p e s m args below meth c B _ locs ls (hH.new B.2.2.2.2.2.2.2.2.1 (by rw [Array.size_push]) (fun q hq => by rw [Array.getElem?_push, if_neg (Nat.ne_of_lt hq)]) ?_) hl
  show (H.push _)[H.size]? = some (vp_cell _ _)
  rw [Array.getElem?_push_size, vp_cell_q, ← arrV_new]
  rfl
end AWH
