theorem inX1 : ∀ w ∈ u_ws RX1 TX1 3, w ∈ wt := fun w h => by
  have h1 : (u_ws RX1 TX1 3).all (fun w => decide (w ∈ lw_tbl) && goodWord w) = true := by decide +kernel
  have h2 := List.all_eq_true.mp h1 w h
  simp only [Bool.and_eq_true, decide_eq_true_eq] at h2
  exact w_fil h2.1 h2.2
theorem inX2 : ∀ w ∈ u_ws RX2 TX2 6, w ∈ wt := fun w h => by
  have h1 : (u_ws RX2 TX2 6).all (fun w => decide (w ∈ lw_tbl) && goodWord w) = true := by decide +kernel
  have h2 := List.all_eq_true.mp h1 w h
  simp only [Bool.and_eq_true, decide_eq_true_eq] at h2
  exact w_fil h2.1 h2.2
theorem inX3 : ∀ w ∈ u_ws RX3 TX3 10, w ∈ wt := fun w h => by
  have h1 : (u_ws RX3 TX3 10).all (fun w => decide (w ∈ lw_tbl) && goodWord w) = true := by decide +kernel
  have h2 := List.all_eq_true.mp h1 w h
  simp only [Bool.and_eq_true, decide_eq_true_eq] at h2
  exact w_fil h2.1 h2.2
theorem inX4 : ∀ w ∈ u_ws RX4 TX4 6, w ∈ wt := fun w h => by
  have h1 : (u_ws RX4 TX4 6).all (fun w => decide (w ∈ lw_tbl) && goodWord w) = true := by decide +kernel
  have h2 := List.all_eq_true.mp h1 w h
  simp only [Bool.and_eq_true, decide_eq_true_eq] at h2
  exact w_fil h2.1 h2.2
theorem inX6 : ∀ w ∈ u_ws RX6 TX6 3, w ∈ wt := fun w h => by
  have h1 : (u_ws RX6 TX6 3).all (fun w => decide (w ∈ lw_tbl) && goodWord w) = true := by decide +kernel
  have h2 := List.all_eq_true.mp h1 w h
  simp only [Bool.and_eq_true, decide_eq_true_eq] at h2
  exact w_fil h2.1 h2.2
theorem inX7 : ∀ w ∈ u_ws RX7 TX7 8, w ∈ wt := fun w h => by
  have h1 : (u_ws RX7 TX7 8).all (fun w => decide (w ∈ lw_tbl) && goodWord w) = true := by decide +kernel
  have h2 := List.all_eq_true.mp h1 w h
  simp only [Bool.and_eq_true, decide_eq_true_eq] at h2
  exact w_fil h2.1 h2.2
theorem inX8 : ∀ w ∈ u_ws RX8 TX8 2, w ∈ wt := fun w h => by
  have h1 : (u_ws RX8 TX8 2).all (fun w => decide (w ∈ lw_tbl) && goodWord w) = true := by decide +kernel
  have h2 := List.all_eq_true.mp h1 w h
  simp only [Bool.and_eq_true, decide_eq_true_eq] at h2
  exact w_fil h2.1 h2.2
/-! TH: what the landed class's objects hold, by address and place: size, kinds (0 none, 1.. the classes of vwCl, 9 int[], 12 games' row, 13 nodes' row), lengths, whole numbers, long numbers, references -/
abbrev TH : Type := Nat × (Nat → Nat) × (Nat → Nat) × (Nat → Nat → Int32) × (Nat → Nat → Int64) × (Nat → Nat → Option Nat)
def t_sz (h : TH) : Nat := h.1
def t_kd (h : TH) : Nat → Nat := h.2.1
def t_ln (h : TH) : Nat → Nat := h.2.2.1
def t_I (h : TH) : Nat → Nat → Int32 := h.2.2.2.1
def t_J (h : TH) : Nat → Nat → Int64 := h.2.2.2.2.1
def t_R (h : TH) : Nat → Nat → Option Nat := h.2.2.2.2.2
def x_up2 {α : Type} (f : Nat → Nat → α) (a k : Nat) (v : α) : Nat → Nat → α := fun b j => if b = a ∧ j = k then v else f b j
def x_up1 {α : Type} (f : Nat → α) (a : Nat) (v : α) : Nat → α := fun b => if b = a then v else f b
def s_I (h : TH) (a k : Nat) (v : Int32) : TH := (t_sz h, t_kd h, t_ln h, x_up2 (t_I h) a k v, t_J h, t_R h)
def s_J (h : TH) (a k : Nat) (v : Int64) : TH := (t_sz h, t_kd h, t_ln h, t_I h, x_up2 (t_J h) a k v, t_R h)
def s_R (h : TH) (a k : Nat) (v : Option Nat) : TH := (t_sz h, t_kd h, t_ln h, t_I h, t_J h, x_up2 (t_R h) a k v)
def s_N (h : TH) (kd n : Nat) : TH := (t_sz h + 1, x_up1 (t_kd h) (t_sz h) kd, x_up1 (t_ln h) (t_sz h) n, x_up1 (t_I h) (t_sz h) (fun _ => 0), x_up1 (t_J h) (t_sz h) (fun _ => 0), x_up1 (t_R h) (t_sz h) (fun _ => none))
/-- the kinds of the fields: 0 a whole number, 1 a long one, 2 a reference -/
def tgs : Nat → List Nat := fun c => match c with
  | 0 => [0, 0, 0]
  | 1 => [2, 0, 2, 0, 2, 0]
  | 2 => [0, 0, 0, 0, 2, 2, 2, 2, 0, 0]
  | 3 => [1, 1, 0, 0, 0, 2]
  | 4 => [2, 2, 0]
  | 5 => [0, 0, 0, 2, 0, 2, 2, 0]
  | 6 => [2, 2]
  | _ => []
def thV (h : TH) (a i t : Nat) : Value := if t = 0 then .int (t_I h a i) else if t = 1 then .long (t_J h a i) else va_rf (t_R h a i)
def thF (h : TH) (a : Nat) (tl : List Nat) : List Value := tl.mapIdx (fun i t => thV h a i t)
def thC (g : xG) (h : TH) (a k : Nat) : Option va_E := if k = 0 then none else if k = 9 then some (.inl (g.2.1, t_ln h a, .inl (t_I h a))) else if k = 12 then some (.inl (g.2.2.2.2.1, t_ln h a, .inr (.inr (.inr (.inr (t_R h a)))))) else if k = 13 then some (.inl (g.2.2.2.2.2, t_ln h a, .inr (.inr (.inr (.inr (t_R h a)))))) else some (.inr (k - 1, thF h a (tgs (k - 1))))
def thE (g : xG) (h : TH) : xV := (t_sz h, fun a => thC g h a (t_kd h a))
theorem thF_at {h : TH} {a k t : Nat} {tl : List Nat} (hk : tl[k]? = some t) : (thF h a tl)[k]? = some (thV h a k t) := by simp [thF, List.getElem?_mapIdx, hk]
theorem thF_len {h : TH} {a k t : Nat} {tl : List Nat} (hk : tl[k]? = some t) : k < (thF h a tl).length := by
  have := (List.getElem?_eq_some_iff.mp hk).1
  simpa [thF] using this
theorem thF_set {h h2 : TH} {a k t : Nat} {tl : List Nat} (hk : tl[k]? = some t) (v : Value) (hv : thV h2 a k t = v) (ho : ∀ j u, j ≠ k → thV h2 a j u = thV h a j u) : (thF h a tl).set k v = thF h2 a tl := by
  apply List.ext_getElem?
  intro j
  rw [List.getElem?_set]
  by_cases hj : k = j
  · subst hj
    rw [if_pos rfl, if_pos (thF_len hk), thF_at hk, hv]
  · rw [if_neg hj]
    simp only [thF, List.getElem?_mapIdx]
    cases tl[j]? with
    | none => rfl
    | some u => simp only [Option.map_some]; rw [ho j u (fun q => hj q.symm)]
theorem thC_ob {g : xG} {h : TH} {a ci : Nat} (hk : t_kd h a = ci + 1) (hc : ci < 8) : (thE g h).2 a = some (.inr (ci, thF h a (tgs ci))) := by
  show thC g h a (t_kd h a) = _
  rw [hk]
  unfold thC
  rw [if_neg (by omega), if_neg (by omega), if_neg (by omega), if_neg (by omega)]
  rfl
theorem thC_i {g : xG} {h : TH} {a : Nat} (hk : t_kd h a = 9) : (thE g h).2 a = some (.inl (g.2.1, t_ln h a, .inl (t_I h a))) := by
  show thC g h a (t_kd h a) = _
  rw [hk]; rfl
theorem thC_m {g : xG} {h : TH} {a : Nat} (hk : t_kd h a = 12) : (thE g h).2 a = some (.inl (g.2.2.2.2.1, t_ln h a, .inr (.inr (.inr (.inr (t_R h a)))))) := by
  show thC g h a (t_kd h a) = _
  rw [hk]; rfl
theorem thC_t {g : xG} {h : TH} {a : Nat} (hk : t_kd h a = 13) : (thE g h).2 a = some (.inl (g.2.2.2.2.2, t_ln h a, .inr (.inr (.inr (.inr (t_R h a)))))) := by
  show thC g h a (t_kd h a) = _
  rw [hk]; rfl
theorem thC_ne {g : xG} {h h2 : TH} {q k : Nat} (hn : t_ln h2 q = t_ln h q) (hI : t_I h2 q = t_I h q) (hJ : t_J h2 q = t_J h q) (hR : t_R h2 q = t_R h q) : thC g h2 q k = thC g h q k := by
  have hV : ∀ i t, thV h2 q i t = thV h q i t := fun i t => by unfold thV; rw [hI, hJ, hR]
  have hF : ∀ tl, thF h2 q tl = thF h q tl := fun tl => by unfold thF; congr; funext i t; exact hV i t
  unfold thC
  rw [hn, hI, hR, hF]
theorem x_up2_ne {α : Type} {f : Nat → Nat → α} {a k : Nat} {v : α} {q : Nat} (h : q ≠ a) : x_up2 f a k v q = f q := by funext j; simp [x_up2, h]
theorem x_up2_at {α : Type} {f : Nat → Nat → α} {a k : Nat} {v : α} : x_up2 f a k v a k = v := by simp [x_up2]
theorem x_up2_off {α : Type} {f : Nat → Nat → α} {a k : Nat} {v : α} {q j : Nat} (h : j ≠ k) : x_up2 f a k v q j = f q j := by simp [x_up2, h]
theorem xUp_th {g : xG} {h h2 : TH} {a : Nat} {e : va_E} (hz : t_sz h2 = t_sz h) (hk : t_kd h2 = t_kd h) (he : thC g h2 a (t_kd h a) = some e) (ho : ∀ q, q ≠ a → t_ln h2 q = t_ln h q ∧ t_I h2 q = t_I h q ∧ t_J h2 q = t_J h q ∧ t_R h2 q = t_R h q) : xUp (thE g h) a e = thE g h2 := by
  refine Prod.ext hz.symm (funext fun q => ?_)
  show (if q = a then some e else thC g h q (t_kd h q)) = thC g h2 q (t_kd h2 q)
  rw [hk]
  by_cases hq : q = a
  · subst hq; rw [if_pos rfl, he]
  · obtain ⟨h1, h2', h3, h4⟩ := ho q hq
    rw [if_neg hq, thC_ne h1 h2' h3 h4]
theorem xUp_I {g : xG} {h : TH} {a ci k : Nat} {v : Int32} (hk : t_kd h a = ci + 1) (hc : ci < 8) (ht : (tgs ci)[k]? = some 0) : xUp (thE g h) a (.inr (ci, (thF h a (tgs ci)).set k (.int v))) = thE g (s_I h a k v) := by
  refine xUp_th rfl rfl ?_ (fun q hq => ⟨rfl, x_up2_ne hq, rfl, rfl⟩)
  have h2 := thC_ob (g := g) (h := s_I h a k v) (a := a) (ci := ci) hk hc
  rw [show thC g (s_I h a k v) a (t_kd h a) = _ from h2, thF_set (h2 := s_I h a k v) ht (.int v) (by simp [thV, s_I, t_I, x_up2]) (fun j u hj => by simp [thV, s_I, t_I, t_J, t_R, x_up2, hj])]
theorem xUp_J {g : xG} {h : TH} {a ci k : Nat} {v : Int64} (hk : t_kd h a = ci + 1) (hc : ci < 8) (ht : (tgs ci)[k]? = some 1) : xUp (thE g h) a (.inr (ci, (thF h a (tgs ci)).set k (.long v))) = thE g (s_J h a k v) := by
  refine xUp_th rfl rfl ?_ (fun q hq => ⟨rfl, rfl, x_up2_ne hq, rfl⟩)
  have h2 := thC_ob (g := g) (h := s_J h a k v) (a := a) (ci := ci) hk hc
  rw [show thC g (s_J h a k v) a (t_kd h a) = _ from h2, thF_set (h2 := s_J h a k v) ht (.long v) (by simp [thV, s_J, t_J, x_up2]) (fun j u hj => by simp [thV, s_J, t_I, t_J, t_R, x_up2, hj])]
theorem xUp_R {g : xG} {h : TH} {a ci k : Nat} {v : Option Nat} (hk : t_kd h a = ci + 1) (hc : ci < 8) (ht : (tgs ci)[k]? = some 2) : xUp (thE g h) a (.inr (ci, (thF h a (tgs ci)).set k (va_rf v))) = thE g (s_R h a k v) := by
  refine xUp_th rfl rfl ?_ (fun q hq => ⟨rfl, rfl, rfl, x_up2_ne hq⟩)
  have h2 := thC_ob (g := g) (h := s_R h a k v) (a := a) (ci := ci) hk hc
  rw [show thC g (s_R h a k v) a (t_kd h a) = _ from h2, thF_set (h2 := s_R h a k v) ht (va_rf v) (by simp [thV, s_R, t_R, x_up2]) (fun j u hj => by simp [thV, s_R, t_I, t_J, t_R, x_up2, hj])]
theorem xUp_i {g : xG} {h : TH} {a k : Nat} {v : Int32} (hk : t_kd h a = 9) : xUp (thE g h) a (.inl (g.2.1, t_ln h a, .inl (upd (t_I h a) k v))) = thE g (s_I h a k v) := by
  refine xUp_th rfl rfl ?_ (fun q hq => ⟨rfl, x_up2_ne hq, rfl, rfl⟩)
  have h2 := thC_i (g := g) (h := s_I h a k v) (a := a) hk
  rw [show thC g (s_I h a k v) a (t_kd h a) = _ from h2]
  have e : t_I (s_I h a k v) a = upd (t_I h a) k v := by funext j; simp [s_I, t_I, x_up2, upd]
  rw [e]; rfl
theorem xUp_m {g : xG} {h : TH} {a k : Nat} {v : Option Nat} (hk : t_kd h a = 12) : xUp (thE g h) a (.inl (g.2.2.2.2.1, t_ln h a, .inr (.inr (.inr (.inr (va_up (t_R h a) k v)))))) = thE g (s_R h a k v) := by
  refine xUp_th rfl rfl ?_ (fun q hq => ⟨rfl, rfl, rfl, x_up2_ne hq⟩)
  have h2 := thC_m (g := g) (h := s_R h a k v) (a := a) hk
  rw [show thC g (s_R h a k v) a (t_kd h a) = _ from h2]
  have e : t_R (s_R h a k v) a = va_up (t_R h a) k v := by funext j; simp [s_R, t_R, x_up2, va_up]
  rw [e]; rfl
theorem xUp_t {g : xG} {h : TH} {a k : Nat} {v : Option Nat} (hk : t_kd h a = 13) : xUp (thE g h) a (.inl (g.2.2.2.2.2, t_ln h a, .inr (.inr (.inr (.inr (va_up (t_R h a) k v)))))) = thE g (s_R h a k v) := by
  refine xUp_th rfl rfl ?_ (fun q hq => ⟨rfl, rfl, rfl, x_up2_ne hq⟩)
  have h2 := thC_t (g := g) (h := s_R h a k v) (a := a) hk
  rw [show thC g (s_R h a k v) a (t_kd h a) = _ from h2]
  have e : t_R (s_R h a k v) a = va_up (t_R h a) k v := by funext j; simp [s_R, t_R, x_up2, va_up]
  rw [e]; rfl
theorem xNew_th {g : xG} {h : TH} {kd n : Nat} {e : va_E} (he : thC g (s_N h kd n) (t_sz h) kd = some e) : xNew (thE g h) e = thE g (s_N h kd n) := by
  refine Prod.ext rfl (funext fun q => ?_)
  show (if q = t_sz h then some e else thC g h q (t_kd h q)) = thC g (s_N h kd n) q (t_kd (s_N h kd n) q)
  by_cases hq : q = t_sz h
  · subst hq
    rw [if_pos rfl, show t_kd (s_N h kd n) (t_sz h) = kd by simp [s_N, t_kd, x_up1], he]
  · rw [if_neg hq, show t_kd (s_N h kd n) q = t_kd h q by simp [s_N, t_kd, x_up1, hq]]
    exact (thC_ne (by simp [s_N, t_ln, x_up1, hq]) (by simp [s_N, t_I, x_up1, hq]) (by simp [s_N, t_J, x_up1, hq]) (by simp [s_N, t_R, x_up1, hq])).symm
theorem tN_I {h : TH} {kd n : Nat} : t_I (s_N h kd n) (t_sz h) = fun _ => 0 := by simp [s_N, t_I, x_up1]
theorem tN_J {h : TH} {kd n : Nat} : t_J (s_N h kd n) (t_sz h) = fun _ => 0 := by simp [s_N, t_J, x_up1]
theorem tN_R {h : TH} {kd n : Nat} : t_R (s_N h kd n) (t_sz h) = fun _ => none := by simp [s_N, t_R, x_up1]
theorem tN_ln {h : TH} {kd n : Nat} : t_ln (s_N h kd n) (t_sz h) = n := by simp [s_N, t_ln, x_up1]
/-- a blank object's fields -/
def thB (tl : List Nat) : List Value := tl.map (fun t => if t = 0 then .int 0 else if t = 1 then .long 0 else .null)
theorem thB_eq {h : TH} {kd n : Nat} {tl : List Nat} : thF (s_N h kd n) (t_sz h) tl = thB tl := by
  apply List.ext_getElem?
  intro j
  simp only [thF, thB, List.getElem?_mapIdx, List.getElem?_map]
  cases tl[j]? with
  | none => rfl
  | some t => simp [thV, tN_I, tN_J, tN_R, va_rf]
section THR
variable {M : xM} {rm : Room} {l : Launch} {g : xG} {x0 : xV} {o1 : Option Value ⊕ String} {x1 : xV} {kc ks : Nat} {h : TH} {pc : Nat} {lv : List (Nat × Value)} {st : List Value}
variable {ci k index N a : Nat} {C : String} {T : u_T} {r : Option Nat}
theorem th_getI (ci k : Nat) (hin : ∀ w ∈ u_ws C T N, w ∈ wt) (hr : r = some a) (hk : t_kd h a = ci + 1) (hc : vwCl[ci]? = some (C, T, N)) (hq : ci < 8 ∧ k < N ∧ (tgs ci)[k]? = some 0) (hl0 : Cond.fieldLink M.1 index (T k).1 (T k).2.1 (T k).2.2.1 ∈ wt) (hd : decode M.2.1 pc = .ok (.getfield index, 3))
    (kk : AW M rm l g x0 o1 x1 kc ks (thE g h) (pc + 3) lv (.int (t_I h a k) :: st)) : AW M rm l g x0 o1 x1 kc ks (thE g h) pc lv (va_rf r :: st) := by
  subst hr
  exact aw_getf (thC_ob hk hq.1) hc hin hq.2.1 hl0 (thF_at hq.2.2) hd kk
theorem th_getJ (ci k : Nat) (hin : ∀ w ∈ u_ws C T N, w ∈ wt) (hr : r = some a) (hk : t_kd h a = ci + 1) (hc : vwCl[ci]? = some (C, T, N)) (hq : ci < 8 ∧ k < N ∧ (tgs ci)[k]? = some 1) (hl0 : Cond.fieldLink M.1 index (T k).1 (T k).2.1 (T k).2.2.1 ∈ wt) (hd : decode M.2.1 pc = .ok (.getfield index, 3))
    (kk : AW M rm l g x0 o1 x1 kc ks (thE g h) (pc + 3) lv (.long (t_J h a k) :: st)) : AW M rm l g x0 o1 x1 kc ks (thE g h) pc lv (va_rf r :: st) := by
  subst hr
  exact aw_getf (thC_ob hk hq.1) hc hin hq.2.1 hl0 (thF_at hq.2.2) hd kk
theorem th_getR (ci k : Nat) (hin : ∀ w ∈ u_ws C T N, w ∈ wt) (hr : r = some a) (hk : t_kd h a = ci + 1) (hc : vwCl[ci]? = some (C, T, N)) (hq : ci < 8 ∧ k < N ∧ (tgs ci)[k]? = some 2) (hl0 : Cond.fieldLink M.1 index (T k).1 (T k).2.1 (T k).2.2.1 ∈ wt) (hd : decode M.2.1 pc = .ok (.getfield index, 3))
    (kk : AW M rm l g x0 o1 x1 kc ks (thE g h) (pc + 3) lv (va_rf (t_R h a k) :: st)) : AW M rm l g x0 o1 x1 kc ks (thE g h) pc lv (va_rf r :: st) := by
  subst hr
  exact aw_getf (thC_ob hk hq.1) hc hin hq.2.1 hl0 (thF_at hq.2.2) hd kk
theorem th_getIN (host : String) (ci k : Nat) (hin : ∀ w ∈ u_ws C T N, w ∈ wt) (hr : r = some a) (hk : t_kd h a = ci + 1) (hc : vwCl[ci]? = some (C, T, N)) (hq : ci < 8 ∧ k < N ∧ (tgs ci)[k]? = some 0) (hl0 : Cond.fieldLinkNest M.1 index (T k).1 (T k).2.1 (T k).2.2.1 host ∈ lw_tbl) (hd : decode M.2.1 pc = .ok (.getfield index, 3))
    (kk : AW M rm l g x0 o1 x1 kc ks (thE g h) (pc + 3) lv (.int (t_I h a k) :: st)) : AW M rm l g x0 o1 x1 kc ks (thE g h) pc lv (va_rf r :: st) := by
  subst hr
  exact aw_getfN (thC_ob hk hq.1) hc hin hq.2.1 hl0 (thF_at hq.2.2) hd kk
theorem th_getJN (host : String) (ci k : Nat) (hin : ∀ w ∈ u_ws C T N, w ∈ wt) (hr : r = some a) (hk : t_kd h a = ci + 1) (hc : vwCl[ci]? = some (C, T, N)) (hq : ci < 8 ∧ k < N ∧ (tgs ci)[k]? = some 1) (hl0 : Cond.fieldLinkNest M.1 index (T k).1 (T k).2.1 (T k).2.2.1 host ∈ lw_tbl) (hd : decode M.2.1 pc = .ok (.getfield index, 3))
    (kk : AW M rm l g x0 o1 x1 kc ks (thE g h) (pc + 3) lv (.long (t_J h a k) :: st)) : AW M rm l g x0 o1 x1 kc ks (thE g h) pc lv (va_rf r :: st) := by
  subst hr
  exact aw_getfN (thC_ob hk hq.1) hc hin hq.2.1 hl0 (thF_at hq.2.2) hd kk
theorem th_getRN (host : String) (ci k : Nat) (hin : ∀ w ∈ u_ws C T N, w ∈ wt) (hr : r = some a) (hk : t_kd h a = ci + 1) (hc : vwCl[ci]? = some (C, T, N)) (hq : ci < 8 ∧ k < N ∧ (tgs ci)[k]? = some 2) (hl0 : Cond.fieldLinkNest M.1 index (T k).1 (T k).2.1 (T k).2.2.1 host ∈ lw_tbl) (hd : decode M.2.1 pc = .ok (.getfield index, 3))
    (kk : AW M rm l g x0 o1 x1 kc ks (thE g h) (pc + 3) lv (va_rf (t_R h a k) :: st)) : AW M rm l g x0 o1 x1 kc ks (thE g h) pc lv (va_rf r :: st) := by
  subst hr
  exact aw_getfN (thC_ob hk hq.1) hc hin hq.2.1 hl0 (thF_at hq.2.2) hd kk
/-- what a class says of its fields' types -/
abbrev xTy (C : String) (T : u_T) (N : Nat) (ty0 : Nat → FieldType) : Prop := (∀ w ∈ u_ws C T N, w ∈ wt) ∧ (∀ k, k < N → parseFieldDescriptor (T k).2.2.1 = some (ty0 k)) ∧ (∀ a, a < N → ∀ b, b < N → a ≠ b → (T a).2.1 ≠ (T b).2.1)
theorem xTy.put {ty0 : Nat → FieldType} (hT : xTy C T N ty0) (hc : vwCl[ci]? = some (C, T, N)) (hk : k < N) {ty : FieldType} {v : Value} {fs : List Value} (hty : ty0 k = ty) (hn : narrow ty v = v) (hf : fits ty v = true) (hl : k < fs.length) : xPut ci k N C T ty0 fs ty v := ⟨hc, hT.1, hT.2.1, hT.2.2, hk, by rw [hT.2.1 k hk, hty], hn, hf, hl⟩

theorem th_putI (ci k : Nat) {ty0 : Nat → FieldType} {v : Int32} (hT : xTy C T N ty0) (hr : r = some a) (hk : t_kd h a = ci + 1) (hc : vwCl[ci]? = some (C, T, N)) (hq : ci < 8 ∧ k < N ∧ (tgs ci)[k]? = some 0) {ty : FieldType} (hty : ty0 k = ty) (hn : narrow ty (.int v) = .int v) (hf : fits ty (.int v) = true) (hl0 : Cond.fieldLink M.1 index (T k).1 (T k).2.1 (T k).2.2.1 ∈ wt) (hfin : (T k).2.2.2 = false) (hd : decode M.2.1 pc = .ok (.putfield index, 3))
    (kk : AW M rm l g x0 o1 x1 kc ks (thE g (s_I h a k v)) (pc + 3) lv st) : AW M rm l g x0 o1 x1 kc ks (thE g h) pc lv (.int v :: va_rf r :: st) := by
  subst hr
  refine aw_putf (thC_ob hk hq.1) (hT.put hc hq.2.1 hty hn hf (thF_len hq.2.2)) hl0 hfin hd ?_
  rw [xUp_I hk hq.1 hq.2.2]; exact kk
theorem th_putJ (ci k : Nat) {ty0 : Nat → FieldType} {v : Int64} (hT : xTy C T N ty0) (hr : r = some a) (hk : t_kd h a = ci + 1) (hc : vwCl[ci]? = some (C, T, N)) (hq : ci < 8 ∧ k < N ∧ (tgs ci)[k]? = some 1) {ty : FieldType} (hty : ty0 k = ty) (hn : narrow ty (.long v) = .long v) (hf : fits ty (.long v) = true) (hl0 : Cond.fieldLink M.1 index (T k).1 (T k).2.1 (T k).2.2.1 ∈ wt) (hfin : (T k).2.2.2 = false) (hd : decode M.2.1 pc = .ok (.putfield index, 3))
    (kk : AW M rm l g x0 o1 x1 kc ks (thE g (s_J h a k v)) (pc + 3) lv st) : AW M rm l g x0 o1 x1 kc ks (thE g h) pc lv (.long v :: va_rf r :: st) := by
  subst hr
  refine aw_putf (thC_ob hk hq.1) (hT.put hc hq.2.1 hty hn hf (thF_len hq.2.2)) hl0 hfin hd ?_
  rw [xUp_J hk hq.1 hq.2.2]; exact kk
theorem th_putR (ci k : Nat) {ty0 : Nat → FieldType} {v : Option Nat} (hT : xTy C T N ty0) (hr : r = some a) (hk : t_kd h a = ci + 1) (hc : vwCl[ci]? = some (C, T, N)) (hq : ci < 8 ∧ k < N ∧ (tgs ci)[k]? = some 2) {ty : FieldType} (hty : ty0 k = ty) (hn : narrow ty (va_rf v) = va_rf v) (hf : fits ty (va_rf v) = true) (hl0 : Cond.fieldLink M.1 index (T k).1 (T k).2.1 (T k).2.2.1 ∈ wt) (hfin : (T k).2.2.2 = false) (hd : decode M.2.1 pc = .ok (.putfield index, 3))
    (kk : AW M rm l g x0 o1 x1 kc ks (thE g (s_R h a k v)) (pc + 3) lv st) : AW M rm l g x0 o1 x1 kc ks (thE g h) pc lv (va_rf v :: va_rf r :: st) := by
  subst hr
  refine aw_putf (thC_ob hk hq.1) (hT.put hc hq.2.1 hty hn hf (thF_len hq.2.2)) hl0 hfin hd ?_
  rw [xUp_R hk hq.1 hq.2.2]; exact kk
theorem th_putIN (host : String) (ci k : Nat) {ty0 : Nat → FieldType} {v : Int32} (hT : xTy C T N ty0) (hr : r = some a) (hk : t_kd h a = ci + 1) (hc : vwCl[ci]? = some (C, T, N)) (hq : ci < 8 ∧ k < N ∧ (tgs ci)[k]? = some 0) {ty : FieldType} (hty : ty0 k = ty) (hn : narrow ty (.int v) = .int v) (hf : fits ty (.int v) = true) (hl0 : Cond.fieldLinkNest M.1 index (T k).1 (T k).2.1 (T k).2.2.1 host ∈ lw_tbl) (hfin : (T k).2.2.2 = false) (hd : decode M.2.1 pc = .ok (.putfield index, 3))
    (kk : AW M rm l g x0 o1 x1 kc ks (thE g (s_I h a k v)) (pc + 3) lv st) : AW M rm l g x0 o1 x1 kc ks (thE g h) pc lv (.int v :: va_rf r :: st) := by
  subst hr
  refine aw_putfN (thC_ob hk hq.1) (hT.put hc hq.2.1 hty hn hf (thF_len hq.2.2)) hl0 hfin hd ?_
  rw [xUp_I hk hq.1 hq.2.2]; exact kk
theorem th_putJN (host : String) (ci k : Nat) {ty0 : Nat → FieldType} {v : Int64} (hT : xTy C T N ty0) (hr : r = some a) (hk : t_kd h a = ci + 1) (hc : vwCl[ci]? = some (C, T, N)) (hq : ci < 8 ∧ k < N ∧ (tgs ci)[k]? = some 1) {ty : FieldType} (hty : ty0 k = ty) (hn : narrow ty (.long v) = .long v) (hf : fits ty (.long v) = true) (hl0 : Cond.fieldLinkNest M.1 index (T k).1 (T k).2.1 (T k).2.2.1 host ∈ lw_tbl) (hfin : (T k).2.2.2 = false) (hd : decode M.2.1 pc = .ok (.putfield index, 3))
    (kk : AW M rm l g x0 o1 x1 kc ks (thE g (s_J h a k v)) (pc + 3) lv st) : AW M rm l g x0 o1 x1 kc ks (thE g h) pc lv (.long v :: va_rf r :: st) := by
  subst hr
  refine aw_putfN (thC_ob hk hq.1) (hT.put hc hq.2.1 hty hn hf (thF_len hq.2.2)) hl0 hfin hd ?_
  rw [xUp_J hk hq.1 hq.2.2]; exact kk
theorem th_putRN (host : String) (ci k : Nat) {ty0 : Nat → FieldType} {v : Option Nat} (hT : xTy C T N ty0) (hr : r = some a) (hk : t_kd h a = ci + 1) (hc : vwCl[ci]? = some (C, T, N)) (hq : ci < 8 ∧ k < N ∧ (tgs ci)[k]? = some 2) {ty : FieldType} (hty : ty0 k = ty) (hn : narrow ty (va_rf v) = va_rf v) (hf : fits ty (va_rf v) = true) (hl0 : Cond.fieldLinkNest M.1 index (T k).1 (T k).2.1 (T k).2.2.1 host ∈ lw_tbl) (hfin : (T k).2.2.2 = false) (hd : decode M.2.1 pc = .ok (.putfield index, 3))
    (kk : AW M rm l g x0 o1 x1 kc ks (thE g (s_R h a k v)) (pc + 3) lv st) : AW M rm l g x0 o1 x1 kc ks (thE g h) pc lv (va_rf v :: va_rf r :: st) := by
  subst hr
  refine aw_putfN (thC_ob hk hq.1) (hT.put hc hq.2.1 hty hn hf (thF_len hq.2.2)) hl0 hfin hd ?_
  rw [xUp_R hk hq.1 hq.2.2]; exact kk
theorem th_putIF (ci k : Nat) {ty0 : Nat → FieldType} {v : Int32} (hT : xTy C T N ty0) (hr : r = some a) (hk : t_kd h a = ci + 1) (hc : vwCl[ci]? = some (C, T, N)) (hq : ci < 8 ∧ k < N ∧ (tgs ci)[k]? = some 0) {ty : FieldType} (hty : ty0 k = ty) (hn : narrow ty (.int v) = .int v) (hf : fits ty (.int v) = true) (hl0 : Cond.fieldLink M.1 index (T k).1 (T k).2.1 (T k).2.2.1 ∈ wt) (hfin : (T k).2.2.2 = true) (hnm0 : M.2.2.2.2 = "<init>") (hdc : (T k).1 = M.1) (hd : decode M.2.1 pc = .ok (.putfield index, 3))
    (kk : AW M rm l g x0 o1 x1 kc ks (thE g (s_I h a k v)) (pc + 3) lv st) : AW M rm l g x0 o1 x1 kc ks (thE g h) pc lv (.int v :: va_rf r :: st) := by
  subst hr
  refine aw_putfF (thC_ob hk hq.1) (hT.put hc hq.2.1 hty hn hf (thF_len hq.2.2)) hl0 hfin hnm0 hdc hd ?_
  rw [xUp_I hk hq.1 hq.2.2]; exact kk
theorem th_putJF (ci k : Nat) {ty0 : Nat → FieldType} {v : Int64} (hT : xTy C T N ty0) (hr : r = some a) (hk : t_kd h a = ci + 1) (hc : vwCl[ci]? = some (C, T, N)) (hq : ci < 8 ∧ k < N ∧ (tgs ci)[k]? = some 1) {ty : FieldType} (hty : ty0 k = ty) (hn : narrow ty (.long v) = .long v) (hf : fits ty (.long v) = true) (hl0 : Cond.fieldLink M.1 index (T k).1 (T k).2.1 (T k).2.2.1 ∈ wt) (hfin : (T k).2.2.2 = true) (hnm0 : M.2.2.2.2 = "<init>") (hdc : (T k).1 = M.1) (hd : decode M.2.1 pc = .ok (.putfield index, 3))
    (kk : AW M rm l g x0 o1 x1 kc ks (thE g (s_J h a k v)) (pc + 3) lv st) : AW M rm l g x0 o1 x1 kc ks (thE g h) pc lv (.long v :: va_rf r :: st) := by
  subst hr
  refine aw_putfF (thC_ob hk hq.1) (hT.put hc hq.2.1 hty hn hf (thF_len hq.2.2)) hl0 hfin hnm0 hdc hd ?_
  rw [xUp_J hk hq.1 hq.2.2]; exact kk
theorem th_putRF (ci k : Nat) {ty0 : Nat → FieldType} {v : Option Nat} (hT : xTy C T N ty0) (hr : r = some a) (hk : t_kd h a = ci + 1) (hc : vwCl[ci]? = some (C, T, N)) (hq : ci < 8 ∧ k < N ∧ (tgs ci)[k]? = some 2) {ty : FieldType} (hty : ty0 k = ty) (hn : narrow ty (va_rf v) = va_rf v) (hf : fits ty (va_rf v) = true) (hl0 : Cond.fieldLink M.1 index (T k).1 (T k).2.1 (T k).2.2.1 ∈ wt) (hfin : (T k).2.2.2 = true) (hnm0 : M.2.2.2.2 = "<init>") (hdc : (T k).1 = M.1) (hd : decode M.2.1 pc = .ok (.putfield index, 3))
    (kk : AW M rm l g x0 o1 x1 kc ks (thE g (s_R h a k v)) (pc + 3) lv st) : AW M rm l g x0 o1 x1 kc ks (thE g h) pc lv (va_rf v :: va_rf r :: st) := by
  subst hr
  refine aw_putfF (thC_ob hk hq.1) (hT.put hc hq.2.1 hty hn hf (thF_len hq.2.2)) hl0 hfin hnm0 hdc hd ?_
  rw [xUp_R hk hq.1 hq.2.2]; exact kk
theorem nar_q (C : String) (v : Option Nat) : narrow (.object C) (va_rf v) = va_rf v := by cases v <;> rfl
theorem fit_q (C : String) (v : Option Nat) : fits (.object C) (va_rf v) = true := by cases v <;> rfl
theorem nar_qa (t : FieldType) (v : Option Nat) : narrow (.array t) (va_rf v) = va_rf v := by cases v <;> rfl
theorem fit_qa (t : FieldType) (v : Option Nat) : fits (.array t) (va_rf v) = true := by cases v <;> rfl
theorem th_iald {i : Int32} (hr : r = some a) (hk : t_kd h a = 9) (hin : vp_in i (t_ln h a)) (hd : decode M.2.1 pc = .ok (.iaload, 1))
    (kk : AW M rm l g x0 o1 x1 kc ks (thE g h) (pc + 1) lv (.int (t_I h a i.toNatClampNeg) :: st)) : AW M rm l g x0 o1 x1 kc ks (thE g h) pc lv (.int i :: va_rf r :: st) := by
  subst hr
  exact aw_iald (thC_i hk) hin hd kk
theorem th_iast {i v : Int32} (hr : r = some a) (hk : t_kd h a = 9) (hin : vp_in i (t_ln h a)) (hd : decode M.2.1 pc = .ok (.iastore, 1))
    (kk : AW M rm l g x0 o1 x1 kc ks (thE g (s_I h a i.toNatClampNeg v)) (pc + 1) lv st) : AW M rm l g x0 o1 x1 kc ks (thE g h) pc lv (.int v :: .int i :: va_rf r :: st) := by
  subst hr
  refine aw_iast (thC_i hk) hin hd ?_
  rw [xUp_i hk]; exact kk
theorem th_alenI (hr : r = some a) (hk : t_kd h a = 9) (hd : decode M.2.1 pc = .ok (.arraylength, 1))
    (kk : AW M rm l g x0 o1 x1 kc ks (thE g h) (pc + 1) lv (.int (nI (t_ln h a)) :: st)) : AW M rm l g x0 o1 x1 kc ks (thE g h) pc lv (va_rf r :: st) := by
  subst hr
  exact aw_alen 0 (thC_i hk) rfl hd kk
theorem th_alenM (hr : r = some a) (hk : t_kd h a = 12) (hd : decode M.2.1 pc = .ok (.arraylength, 1))
    (kk : AW M rm l g x0 o1 x1 kc ks (thE g h) (pc + 1) lv (.int (nI (t_ln h a)) :: st)) : AW M rm l g x0 o1 x1 kc ks (thE g h) pc lv (va_rf r :: st) := by
  subst hr
  exact aw_alen 3 (thC_m hk) rfl hd kk
theorem th_alenT (hr : r = some a) (hk : t_kd h a = 13) (hd : decode M.2.1 pc = .ok (.arraylength, 1))
    (kk : AW M rm l g x0 o1 x1 kc ks (thE g h) (pc + 1) lv (.int (nI (t_ln h a)) :: st)) : AW M rm l g x0 o1 x1 kc ks (thE g h) pc lv (va_rf r :: st) := by
  subst hr
  exact aw_alen 4 (thC_t hk) rfl hd kk
theorem th_aaldM {i : Int32} (hr : r = some a) (hk : t_kd h a = 12) (hin : vp_in i (t_ln h a)) (hd : decode M.2.1 pc = .ok (.aaload, 1))
    (kk : AW M rm l g x0 o1 x1 kc ks (thE g h) (pc + 1) lv (va_rf (t_R h a i.toNatClampNeg) :: st)) : AW M rm l g x0 o1 x1 kc ks (thE g h) pc lv (.int i :: va_rf r :: st) := by
  subst hr
  exact aw_aald 3 (thC_m hk) rfl hin hd kk
theorem th_aaldT {i : Int32} (hr : r = some a) (hk : t_kd h a = 13) (hin : vp_in i (t_ln h a)) (hd : decode M.2.1 pc = .ok (.aaload, 1))
    (kk : AW M rm l g x0 o1 x1 kc ks (thE g h) (pc + 1) lv (va_rf (t_R h a i.toNatClampNeg) :: st)) : AW M rm l g x0 o1 x1 kc ks (thE g h) pc lv (.int i :: va_rf r :: st) := by
  subst hr
  exact aw_aald 4 (thC_t hk) rfl hin hd kk
theorem th_aastM {i : Int32} {v : Option Nat} (hr : r = some a) (hk : t_kd h a = 12) (hin : vp_in i (t_ln h a)) (hv : ∀ b, v = some b → t_kd h b = 3) (hd : decode M.2.1 pc = .ok (.aastore, 1))
    (kk : AW M rm l g x0 o1 x1 kc ks (thE g (s_R h a i.toNatClampNeg v)) (pc + 1) lv st) : AW M rm l g x0 o1 x1 kc ks (thE g h) pc lv (va_rf v :: .int i :: va_rf r :: st) := by
  subst hr
  cases v with
  | none =>
    refine aw_aastN 3 (thC_m hk) rfl hin hd ?_
    rw [xUp_m hk]; exact kk
  | some b =>
    refine aw_aast 3 2 (r := (RX3, TX3, 10)) (thC_m hk) rfl (thC_ob (ci := 2) (hv b rfl) (by decide)) rfl hin hd ?_
    rw [xUp_m hk]; exact kk
theorem th_aastT {i : Int32} {v : Option Nat} (hr : r = some a) (hk : t_kd h a = 13) (hin : vp_in i (t_ln h a)) (hv : ∀ b, v = some b → t_kd h b = 6) (hd : decode M.2.1 pc = .ok (.aastore, 1))
    (kk : AW M rm l g x0 o1 x1 kc ks (thE g (s_R h a i.toNatClampNeg v)) (pc + 1) lv st) : AW M rm l g x0 o1 x1 kc ks (thE g h) pc lv (va_rf v :: .int i :: va_rf r :: st) := by
  subst hr
  cases v with
  | none =>
    refine aw_aastN 4 (thC_t hk) rfl hin hd ?_
    rw [xUp_t hk]; exact kk
  | some b =>
    refine aw_aast 4 5 (r := (RX7, TX7, 8)) (thC_t hk) rfl (thC_ob (ci := 5) (hv b rfl) (by decide)) rfl hin hd ?_
    rw [xUp_t hk]; exact kk
theorem th_new (ci : Nat) {ty0 : Nat → FieldType} (hT : xTy C T N ty0) (hc : vwCl[ci]? = some (C, T, N)) (hc8 : ci < 8) (hcl : Cond.classLink M.1 index C ∈ wt) (hinst : Cond.instantiable C N ∈ wt) (hini : Cond.initialized C ∈ wt) (hfs : ∀ j, j < N → defaultValue (ty0 j) = vp_V (thB (tgs ci)) j) (hf : kc + 1 ≤ rm.cells ∧ ks + N ≤ rm.slots) (hd : decode M.2.1 pc = .ok (.new index, 3))
    (kk : AW M rm l g x0 o1 x1 (kc + 1) (ks + N) (thE g (s_N h (ci + 1) 0)) (pc + 3) lv (va_rf (some (t_sz h)) :: st)) : AW M rm l g x0 o1 x1 kc ks (thE g h) pc lv st := by
  refine aw_new (thB (tgs ci)) hc hT.1 hT.2.1 hcl hinst hini hfs hf hd ?_
  rw [xNew_th (kd := ci + 1) (n := 0)]
  · exact kk
  · have h2 := thC_ob (g := g) (h := s_N h (ci + 1) 0) (a := t_sz h) (ci := ci) (by simp [s_N, t_kd, x_up1]) hc8
    rw [thB_eq] at h2
    rw [← h2]
    show _ = thC g (s_N h (ci + 1) 0) (t_sz h) (t_kd (s_N h (ci + 1) 0) (t_sz h))
    rw [show t_kd (s_N h (ci + 1) 0) (t_sz h) = ci + 1 by simp [s_N, t_kd, x_up1]]
theorem th_newI {n : Int32} (n' : Nat) (harr : Cond.arrayClass .int ∈ wt) (hn : ¬ n < 0) (hN : n.toNatClampNeg = n') (hb : n' * componentBytes .int ≤ 536870912) (hf : kc + 1 ≤ rm.cells ∧ ks + n' ≤ rm.slots) {aty : ArrayType} (hty : newarray.typeOf aty = .int) (hd : decode M.2.1 pc = .ok (.newarray aty, 2))
    (kk : AW M rm l g x0 o1 x1 (kc + 1) (ks + n') (thE g (s_N h 9 n')) (pc + 2) lv (va_rf (some (t_sz h)) :: st)) : AW M rm l g x0 o1 x1 kc ks (thE g h) pc lv (.int n :: st) := by
  refine aw_newa 0 (a0 := (n', .inl (fun _ => 0))) hty (Or.inl rfl) rfl harr rfl hn hN hb hf hd ?_
  rw [xNew_th (kd := 9) (n := n')]
  · exact kk
  · show some _ = _
    rw [tN_ln, tN_I]
theorem th_newM {n : Int32} (n' : Nat) (hcl : Cond.classLink M.1 index RX3 ∈ wt) (hn : ¬ n < 0) (hN : n.toNatClampNeg = n') (hb : n' * 4 ≤ 536870912) (hf : kc + 1 ≤ rm.cells ∧ ks + n' ≤ rm.slots) (hd : decode M.2.1 pc = .ok (.anewarray index, 3))
    (kk : AW M rm l g x0 o1 x1 (kc + 1) (ks + n') (thE g (s_N h 12 n')) (pc + 3) lv (va_rf (some (t_sz h)) :: st)) : AW M rm l g x0 o1 x1 kc ks (thE g h) pc lv (.int n :: st) := by
  refine aw_newq 3 (Or.inl rfl) rfl hcl hn hN hb hf hd ?_
  rw [xNew_th (kd := 12) (n := n')]
  · exact kk
  · show some _ = _
    rw [tN_ln, tN_R]
theorem th_newT {n : Int32} (n' : Nat) (hcl : Cond.classLink M.1 index RX7 ∈ wt) (hn : ¬ n < 0) (hN : n.toNatClampNeg = n') (hb : n' * 4 ≤ 536870912) (hf : kc + 1 ≤ rm.cells ∧ ks + n' ≤ rm.slots) (hd : decode M.2.1 pc = .ok (.anewarray index, 3))
    (kk : AW M rm l g x0 o1 x1 (kc + 1) (ks + n') (thE g (s_N h 13 n')) (pc + 3) lv (va_rf (some (t_sz h)) :: st)) : AW M rm l g x0 o1 x1 kc ks (thE g h) pc lv (.int n :: st) := by
  refine aw_newq 4 (Or.inr rfl) rfl hcl hn hN hb hf hd ?_
  rw [xNew_th (kd := 13) (n := n')]
  · exact kk
  · show some _ = _
    rw [tN_ln, tN_R]
end THR
theorem xtX1 : xTy RX1 TX1 3 tyX1 := ⟨inX1, tyX1_ok, nmX1⟩
theorem xtX2 : xTy RX2 TX2 6 tyX2 := ⟨inX2, tyX2_ok, nmX2⟩
theorem xtX3 : xTy RX3 TX3 10 tyX3 := ⟨inX3, tyX3_ok, nmX3⟩
theorem xtX4 : xTy RX4 TX4 6 tyX4 := ⟨inX4, tyX4_ok, nmX4⟩
theorem xtX6 : xTy RX6 TX6 3 tyX6 := ⟨inX6, tyX6_ok, nmX6⟩
theorem xtX7 : xTy RX7 TX7 8 tyX7 := ⟨inX7, tyX7_ok, nmX7⟩
theorem xtX8 : xTy RX8 TX8 2 tyX8 := ⟨inX8, tyX8_ok, nmX8⟩
/-! MS: whole and long numbers by field, rows of whole and long numbers by place: what the reference would hold (a ghost here), and what the law's own rows hold. -/
abbrev MS : Type := (Nat → Int32) × (Nat → Int64) × (Nat → Nat → Int32) × (Nat → Nat → Int64)
def m_i (S : MS) : Nat → Int32 := S.1
def m_j (S : MS) : Nat → Int64 := S.2.1
def m_I (S : MS) : Nat → Nat → Int32 := S.2.2.1
def m_J (S : MS) : Nat → Nat → Int64 := S.2.2.2
def ms_i (S : MS) (k : Nat) (v : Int32) : MS := (x_up1 (m_i S) k v, m_j S, m_I S, m_J S)
def ms_j (S : MS) (k : Nat) (v : Int64) : MS := (m_i S, x_up1 (m_j S) k v, m_I S, m_J S)
def ms_I (S : MS) (j i : Nat) (v : Int32) : MS := (m_i S, m_j S, x_up2 (m_I S) j i v, m_J S)
def ms_J (S : MS) (j i : Nat) (v : Int64) : MS := (m_i S, m_j S, m_I S, x_up2 (m_J S) j i v)
theorem m_I_up {S : MS} {j i : Nat} {v : Int32} : m_I (ms_I S j i v) j = upd (m_I S j) i v := by funext q; simp [ms_I, m_I, x_up2, upd]
theorem m_J_up {S : MS} {j i : Nat} {v : Int64} : m_J (ms_J S j i v) j = vp_updL (m_J S j) i v := by funext q; simp [ms_J, m_J, x_up2, vp_updL]
/-- the law's own rows, at lo and behind: 0 b, 1 w, 2 q, 3 p, 4 h, 5 c, 6 m, 7 g, 8 n, 9 k, 10 o: (1 long numbers, else whole ones; how many) -/
def lar : List (Nat × Nat) := [(1, 64), (1, 64), (0, 64), (0, 24), (0, 64), (0, 64), (0, 48), (0, 5), (0, 60), (0, 60), (1, 2)]
def laA (g : xG) (L : MS) (j : Nat) : Option va_E := match lar[j]? with
  | none => none
  | some (t, n) => if t = 0 then some (.inl (g.2.1, n, .inl (m_I L j))) else some (.inl (g.2.2.1, n, .inr (.inl (m_J L j))))
def laE (g : xG) (lo sz : Nat) (L : MS) : xV := (sz, fun a => if lo ≤ a then laA g L (a - lo) else none)
theorem la_ar {g : xG} {lo sz j : Nat} {L : MS} : (laE g lo sz L).2 (lo + j) = laA g L j := by
  show (if lo ≤ lo + j then laA g L (lo + j - lo) else none) = _
  rw [if_pos (by omega), show lo + j - lo = j by omega]
theorem laA_i {g : xG} {L : MS} {j n : Nat} (h : lar[j]? = some (0, n)) : laA g L j = some (.inl (g.2.1, n, .inl (m_I L j))) := by simp [laA, h]
theorem laA_l {g : xG} {L : MS} {j n : Nat} (h : lar[j]? = some (1, n)) : laA g L j = some (.inl (g.2.2.1, n, .inr (.inl (m_J L j)))) := by simp [laA, h]
theorem xUp_laA {g : xG} {lo sz j : Nat} {L L2 : MS} {e : va_E} (he : laA g L2 j = some e) (ho : ∀ q, q ≠ j → m_I L2 q = m_I L q ∧ m_J L2 q = m_J L q) : xUp (laE g lo sz L) (lo + j) e = laE g lo sz L2 := by
  refine Prod.ext rfl (funext fun q => ?_)
  show (if q = lo + j then some e else if lo ≤ q then laA g L (q - lo) else none) = (if lo ≤ q then laA g L2 (q - lo) else none)
  by_cases hq : q = lo + j
  · rw [if_pos hq, if_pos (by omega), show q - lo = j by omega, he]
  · rw [if_neg hq]
    by_cases h2 : lo ≤ q
    · rw [if_pos h2, if_pos h2]
      have h3 := ho (q - lo) (by omega)
      unfold laA
      rw [h3.1, h3.2]
    · rw [if_neg h2, if_neg h2]
section LAR
variable {M : xM} {rm : Room} {l : Launch} {g : xG} {x0 : xV} {o1 : Option Value ⊕ String} {x1 : xV} {kc ks : Nat} {lo sz : Nat} {L : MS} {pc : Nat} {lv : List (Nat × Value)} {st : List Value}
theorem la_iald (j n : Nat) {i : Int32} (hj : lar[j]? = some (0, n)) (hin : vp_in i n) (hd : decode M.2.1 pc = .ok (.iaload, 1))
    (kk : AW M rm l g x0 o1 x1 kc ks (laE g lo sz L) (pc + 1) lv (.int (m_I L j i.toNatClampNeg) :: st)) : AW M rm l g x0 o1 x1 kc ks (laE g lo sz L) pc lv (.int i :: .ref (lo + j) :: st) := aw_iald (la_ar.trans (laA_i hj)) hin hd kk
theorem la_lald (j n : Nat) {i : Int32} (hj : lar[j]? = some (1, n)) (hin : vp_in i n) (hd : decode M.2.1 pc = .ok (.laload, 1))
    (kk : AW M rm l g x0 o1 x1 kc ks (laE g lo sz L) (pc + 1) lv (.long (m_J L j i.toNatClampNeg) :: st)) : AW M rm l g x0 o1 x1 kc ks (laE g lo sz L) pc lv (.int i :: .ref (lo + j) :: st) := aw_lald (la_ar.trans (laA_l hj)) hin hd kk
theorem la_iast (j n : Nat) {i v : Int32} (hj : lar[j]? = some (0, n)) (hin : vp_in i n) (hd : decode M.2.1 pc = .ok (.iastore, 1))
    (kk : AW M rm l g x0 o1 x1 kc ks (laE g lo sz (ms_I L j i.toNatClampNeg v)) (pc + 1) lv st) : AW M rm l g x0 o1 x1 kc ks (laE g lo sz L) pc lv (.int v :: .int i :: .ref (lo + j) :: st) := by
  refine aw_iast (la_ar.trans (laA_i hj)) hin hd ?_
  rw [xUp_laA (L := L) (L2 := ms_I L j i.toNatClampNeg v) (by rw [laA_i hj, m_I_up]) (fun q hq => ⟨x_up2_ne hq, rfl⟩)]; exact kk
theorem la_last (j n : Nat) {i : Int32} {v : Int64} (hj : lar[j]? = some (1, n)) (hin : vp_in i n) (hd : decode M.2.1 pc = .ok (.lastore, 1))
    (kk : AW M rm l g x0 o1 x1 kc ks (laE g lo sz (ms_J L j i.toNatClampNeg v)) (pc + 1) lv st) : AW M rm l g x0 o1 x1 kc ks (laE g lo sz L) pc lv (.long v :: .int i :: .ref (lo + j) :: st) := by
  refine aw_last (la_ar.trans (laA_l hj)) hin hd ?_
  rw [xUp_laA (L := L) (L2 := ms_J L j i.toNatClampNeg v) (by rw [laA_l hj, m_J_up]) (fun q hq => ⟨rfl, x_up2_ne hq⟩)]; exact kk
end LAR
