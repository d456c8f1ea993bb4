/-! PURE 5: places, reads behind writes. -/
theorem xin_nI {k n : Nat} (h : k < n) (hn : n < 2 ^ 31) : xin (nI k) n = true := by
  have h1 := nI_clamp (n := k) (by omega)
  have h2 := nI_pos' (n := k) (by omega)
  simp [xin, h1, h2, h]
theorem clp {k : Nat} (h : k < 2 ^ 31) : (nI k).toNatClampNeg = k := nI_clamp h
section RD
variable {h : TH} {a k b j : Nat} {v : Int32} {w : Int64} {r : Option Nat} {kd n : Nat}
theorem kd_sI : t_kd (s_I h a k v) = t_kd h := rfl
theorem kd_sJ : t_kd (s_J h a k w) = t_kd h := rfl
theorem kd_sR : t_kd (s_R h a k r) = t_kd h := rfl
theorem ln_sI : t_ln (s_I h a k v) = t_ln h := rfl
theorem ln_sJ : t_ln (s_J h a k w) = t_ln h := rfl
theorem ln_sR : t_ln (s_R h a k r) = t_ln h := rfl
theorem sz_sI : t_sz (s_I h a k v) = t_sz h := rfl
theorem sz_sJ : t_sz (s_J h a k w) = t_sz h := rfl
theorem sz_sR : t_sz (s_R h a k r) = t_sz h := rfl
theorem sz_sN : t_sz (s_N h kd n) = t_sz h + 1 := rfl
theorem kd_sN : t_kd (s_N h kd n) b = if b = t_sz h then kd else t_kd h b := rfl
theorem ln_sN : t_ln (s_N h kd n) b = if b = t_sz h then n else t_ln h b := rfl
theorem I_sI : t_I (s_I h a k v) b j = if b = a ∧ j = k then v else t_I h b j := rfl
theorem I_sJ : t_I (s_J h a k w) = t_I h := rfl
theorem I_sR : t_I (s_R h a k r) = t_I h := rfl
theorem I_sN : t_I (s_N h kd n) b j = if b = t_sz h then 0 else t_I h b j := by
  show (if b = t_sz h then (fun _ => (0 : Int32)) else t_I h b) j = _
  split <;> rfl
theorem J_sI : t_J (s_I h a k v) = t_J h := rfl
theorem J_sJ : t_J (s_J h a k w) b j = if b = a ∧ j = k then w else t_J h b j := rfl
theorem J_sR : t_J (s_R h a k r) = t_J h := rfl
theorem J_sN : t_J (s_N h kd n) b j = if b = t_sz h then 0 else t_J h b j := by
  show (if b = t_sz h then (fun _ => (0 : Int64)) else t_J h b) j = _
  split <;> rfl
theorem R_sI : t_R (s_I h a k v) = t_R h := rfl
theorem R_sJ : t_R (s_J h a k w) = t_R h := rfl
theorem R_sR : t_R (s_R h a k r) b j = if b = a ∧ j = k then r else t_R h b j := rfl
theorem R_sN : t_R (s_N h kd n) b j = if b = t_sz h then none else t_R h b j := by
  show (if b = t_sz h then (fun _ => (none : Option Nat)) else t_R h b) j = _
  split <;> rfl
end RD
section RM
variable {S : MS} {a k b j : Nat} {v : Int32} {w : Int64}
theorem mi_i : m_i (ms_i S k v) j = if j = k then v else m_i S j := rfl
theorem mi_j : m_i (ms_j S k w) = m_i S := rfl
theorem mi_I : m_i (ms_I S a k v) = m_i S := rfl
theorem mi_J : m_i (ms_J S a k w) = m_i S := rfl
theorem mj_i : m_j (ms_i S k v) = m_j S := rfl
theorem mj_j : m_j (ms_j S k w) j = if j = k then w else m_j S j := rfl
theorem mj_I : m_j (ms_I S a k v) = m_j S := rfl
theorem mj_J : m_j (ms_J S a k w) = m_j S := rfl
theorem mI_i : m_I (ms_i S k v) = m_I S := rfl
theorem mI_j : m_I (ms_j S k w) = m_I S := rfl
theorem mI_I : m_I (ms_I S a k v) b j = if b = a ∧ j = k then v else m_I S b j := rfl
theorem mI_J : m_I (ms_J S a k w) = m_I S := rfl
theorem mJ_i : m_J (ms_i S k v) = m_J S := rfl
theorem mJ_j : m_J (ms_j S k w) = m_J S := rfl
theorem mJ_I : m_J (ms_I S a k v) = m_J S := rfl
theorem mJ_J : m_J (ms_J S a k w) b j = if b = a ∧ j = k then w else m_J S b j := rfl
end RM
/-- the reference's state but for what only its calls use among themselves: ranks and strings count for the first n players -/
def Sq (n : Nat) (S S2 : MS) : Prop :=
  (∀ k, k ≠ 27 → k ≠ 28 → k ≠ 47 → m_i S2 k = m_i S k) ∧
  (∀ a, a ≠ 1 → a ≠ 2 → a ≠ 27 → a ≠ 37 → m_I S2 a = m_I S a) ∧
  (∀ a, a < 8 → m_I S2 1 a = m_I S 1 a ∧ m_I S2 2 a = m_I S 2 a) ∧
  (∀ a, a < 21 ∨ 26 < a → m_J S2 a = m_J S a)
theorem Sq.rf {n : Nat} {S : MS} : Sq n S S := ⟨fun _ _ _ _ => rfl, fun _ _ _ _ _ => rfl, fun _ _ => ⟨rfl, rfl⟩, fun _ _ => rfl⟩
theorem Sq.tr {n : Nat} {S S2 S3 : MS} (h : Sq n S S2) (h2 : Sq n S2 S3) : Sq n S S3 :=
  ⟨fun k a b c => (h2.1 k a b c).trans (h.1 k a b c), fun k a b c d => (h2.2.1 k a b c d).trans (h.2.1 k a b c d), fun a q => ⟨(h2.2.2.1 a q).1.trans (h.2.2.1 a q).1, (h2.2.2.1 a q).2.trans (h.2.2.1 a q).2⟩, fun a q => (h2.2.2.2 a q).trans (h.2.2.2 a q)⟩
theorem Sq.i {n k : Nat} {S : MS} {v : Int32} (h : k = 27 ∨ k = 28 ∨ k = 47) : Sq n S (ms_i S k v) := by
  refine ⟨fun q a b c => ?_, fun _ _ _ _ _ => rfl, fun _ _ => ⟨rfl, rfl⟩, fun _ _ => rfl⟩
  rw [mi_i, if_neg (by omega)]
theorem Sq.j {n k : Nat} {S : MS} {v : Int64} : Sq n S (ms_j S k v) := ⟨fun _ _ _ _ => rfl, fun _ _ _ _ _ => rfl, fun _ _ => ⟨rfl, rfl⟩, fun _ _ => rfl⟩
theorem Sq.I {n k i : Nat} {S : MS} {v : Int32} (h : k = 27 ∨ k = 37) : Sq n S (ms_I S k i v) := by
  refine ⟨fun _ _ _ _ => rfl, fun a h1 h2 h3 h4 => ?_, fun a _ => ⟨?_, ?_⟩, fun _ _ => rfl⟩
  · funext j; rw [mI_I, if_neg (by omega)]
  · rw [mI_I, if_neg (by omega)]
  · rw [mI_I, if_neg (by omega)]
theorem Sq.J {n k i : Nat} {S : MS} {v : Int64} (h : 21 ≤ k ∧ k ≤ 26) : Sq n S (ms_J S k i v) := by
  refine ⟨fun _ _ _ _ => rfl, fun _ _ _ _ _ => rfl, fun _ _ => ⟨rfl, rfl⟩, fun a h1 => ?_⟩
  funext j; rw [mJ_J, if_neg (by omega)]
theorem Sq.put {n : Nat} {S : MS} {b w : Int64} {c : Int32} {p : Nat} : Sq n S (putS S b w c p) := by
  unfold putS
  exact (((Sq.i (Or.inl rfl)).tr (Sq.i (Or.inr (Or.inl rfl)))).tr Sq.j).tr Sq.j
/-- a value between 0 and n - 1 -/
theorem bi0 : bi false = 0 := rfl
theorem bi1 : ¬ bi true = 0 := by decide
def IV (v : Int32) (n : Nat) : Prop := ∃ j, j < n ∧ v = nI j
/-- isIn -/
theorem isIn_X9 (x lo hi : Int32) : fX9_isIn x lo hi = some (decide (lo ≤ x) && decide (x ≤ hi)) := by
  unfold fX9_isIn
  by_cases h1 : x < lo
  · rw [if_pos h1, decide_eq_false (Int32.not_le.mpr h1)]; rfl
  · rw [if_neg h1, decide_eq_true (Int32.not_lt.mp h1)]
    by_cases h2 : hi < x
    · rw [if_pos h2, decide_eq_false (Int32.not_le.mpr h2)]; rfl
    · rw [if_neg h2, decide_eq_true (Int32.not_lt.mp h2)]; rfl
/-- is x the number of one of n things -/
def isN (x : Int32) (n : Nat) : Bool := decide (0 ≤ x) && decide (x < nI n)
theorem isN_nI {k n : Nat} (h : k < n) (hn : n < 2 ^ 31) : isN (nI k) n = true := by
  unfold isN
  rw [decide_eq_true (nI_pos' (by omega)), decide_eq_true (nI_lt h hn)]; rfl
theorem isN_ex {x : Int32} {n : Nat} (h : isN x n = true) (hn : n < 2 ^ 31) : ∃ k, k < n ∧ x = nI k := by
  unfold isN at h
  simp only [Bool.and_eq_true, decide_eq_true_eq] at h
  obtain ⟨j, hj, rfl⟩ := nI_of (Int32.not_lt.mpr h.1)
  exact ⟨j, (nI_ltI hj hn).mp h.2, rfl⟩
theorem m1_lt {j : Nat} (hj : j < 2 ^ 31) : ¬ nI j ≤ nI 0 - 1 := by
  rw [Int32.not_le, Int32.lt_iff_toInt_lt, nI_toInt hj]
  have : (nI 0 - 1).toInt = -1 := by decide
  rw [this]; omega
theorem isIn_z {j : Nat} (hj : j < 2 ^ 31) : decide (nI j ≤ nI 0 - 1) = decide (nI j < nI 0) := by
  rw [decide_eq_false (m1_lt hj), decide_eq_false (nI_nlt (Nat.zero_le j) hj)]
theorem isIn_s {j m : Nat} (hj : j < 2 ^ 31) (hm : m + 1 < 2 ^ 31) : (nI j ≤ nI (m + 1) - 1) ↔ (nI j < nI (m + 1)) := by
  rw [nI_pred, nI_leI hj (Nat.lt_of_succ_lt hm), nI_ltI hj hm]
  exact Nat.lt_succ_iff.symm
theorem isIn_pred {x : Int32} {n : Nat} (hn : n < 1000) : (decide (0 ≤ x) && decide (x ≤ nI n - 1)) = isN x n := by
  unfold isN
  by_cases h0 : 0 ≤ x
  · rw [decide_eq_true h0, Bool.true_and, Bool.true_and]
    obtain ⟨j, hj, hx⟩ := nI_of (Int32.not_lt.mpr h0)
    rw [hx]
    cases n with
    | zero => exact isIn_z hj
    | succ m => exact decide_eq_decide.mpr (isIn_s hj (Nat.lt_trans hn (by decide)))
  · rw [decide_eq_false h0, Bool.false_and, Bool.false_and]
theorem isN_cases {x : Int32} {n : Nat} (hn : n < 2 ^ 31) : isN x n = false ∨ ∃ k, k < n ∧ x = nI k := by
  cases h : isN x n
  · exact Or.inl rfl
  · exact Or.inr (isN_ex h hn)
/-- an argument within a range -/
def inR (x lo hi : Int32) : Bool := decide (lo ≤ x) && decide (x ≤ hi)
theorem range_X8 (h : TH) (x lo hi : Int32) : fX8_requireRange h x lo hi = some (if inR x lo hi = true then .inl h else .inr ("java/lang/IllegalArgumentException", h)) := by
  unfold fX8_requireRange fX8_requireRange_10 inR
  by_cases h1 : x < lo
  · rw [if_pos h1, decide_eq_false (Int32.not_le.mpr h1)]; rfl
  · rw [if_neg h1, decide_eq_true (Int32.not_lt.mp h1)]
    by_cases h2 : x ≤ hi
    · rw [if_pos h2, decide_eq_true h2]; rfl
    · rw [if_neg h2, decide_eq_false h2]; rfl
theorem point_X8 (h : TH) (x : Int32) : fX8_requirePoint h x = some (if isN x 49 = true then .inl h else .inr ("java/lang/IndexOutOfBoundsException", h)) := by
  unfold fX8_requirePoint fX8_requirePoint_10 isN
  have e : (49 : Int32) = nI 49 := by decide
  rw [← e]
  by_cases h1 : x < 0
  · rw [if_pos h1, decide_eq_false (Int32.not_le.mpr h1)]; rfl
  · rw [if_neg h1, decide_eq_true (Int32.not_lt.mp h1)]
    by_cases h2 : x < 49
    · rw [if_pos h2, decide_eq_true h2]; rfl
    · rw [if_neg h2, decide_eq_false h2]; rfl
theorem isPoint_X9 (x : Int32) : fX9_isPoint x = some (isN x 49) := by
  unfold fX9_isPoint
  rw [isIn_X9, Option.bind_some, ← isIn_pred (n := 49) (by omega)]
  rfl
theorem fails_X9 (S : MS) (k : Nat) (hk : k < 4) : fX9_fails S (nI k) = some (decide (0 < k), ms_i S 47 (nI k)) := by
  unfold fX9_fails
  match k, hk with
  | 0, _ => rfl
  | 1, _ => rfl
  | 2, _ => rfl
  | 3, _ => rfl
  | n + 4, h => omega
theorem fails_0 (S : MS) : fX9_fails S 0 = some (false, ms_i S 47 0) := rfl
theorem fails_1 (S : MS) : fX9_fails S 1 = some (true, ms_i S 47 1) := rfl
theorem fails_2 (S : MS) : fX9_fails S 2 = some (true, ms_i S 47 2) := rfl
theorem fails_3 (S : MS) : fX9_fails S 3 = some (true, ms_i S 47 3) := rfl
/-! PURE 6: ranks and strings, found from a list of games. -/
def rdom : List (Int32 × Int32) := (List.range 21).flatMap fun r => [(-2 : Int32), -1, 0, 1, 2].map fun s => (nI r, s)
def bst (w : Bool) (q : Int32 × Int32) : Int32 × Int32 :=
  let s := if w = true then (if q.2 ≤ 0 then 1 else q.2 + 1) else (if 0 ≤ q.2 then -1 else q.2 - 1)
  if s = 3 then (if 20 ≤ q.1 then q.1 + 0 else q.1 + 1, 0) else if s = -3 then (if q.1 ≤ 0 then q.1 - 0 else q.1 - 1, 0) else (q.1, s)
def cst (w : Bool) (q : Int32 × Int32) : Int32 × Int32 :=
  let s := if w = true then x_max q.2 0 + 1 else x_min q.2 0 - 1
  if s = 3 ∨ s = -3 then (x_max 0 (x_min 20 (q.1 + s / 3)), 0) else (q.1, s)
theorem bst_dom : ∀ q ∈ rdom, ∀ w, bst w q ∈ rdom := by decide +kernel
theorem cst_bst : ∀ q ∈ rdom, ∀ w, cst w q = bst w q := by decide +kernel
theorem rdom_0 {v : Int32} (h : IV v 21) : (v, (0 : Int32)) ∈ rdom := by
  obtain ⟨j, hj, rfl⟩ := h
  have : ∀ j, j < 21 → (nI j, (0 : Int32)) ∈ rdom := by decide +kernel
  exact this j hj
theorem rdom_r : ∀ q ∈ rdom, ∃ r, r < 21 ∧ q.1 = nI r := by decide +kernel
theorem rdom_s10 : ∀ q ∈ rdom, ((10 : Int32) * q.1 + (if 0 ≤ q.2 then q.2 else 5 - q.2)) / 10 = q.1 := by decide +kernel
/-- what a game makes of the rank and string of player a -/
def gst (S : MS) (a : Nat) (q : Int32 × Int32) (g : Nat) : Int32 × Int32 :=
  if m_I S 9 g = 0 then (if m_I S 5 g = nI a then bst (decide (m_I S 8 g = 1)) q else if m_I S 6 g = nI a then bst (decide (m_I S 8 g = 2)) q else q) else q
def stdF (S : MS) (a : Nat) (l : List Nat) : Int32 × Int32 := l.foldl (gst S a) (m_I S 0 a, 0)
theorem gst_dom {S : MS} {a g : Nat} {q : Int32 × Int32} (h : q ∈ rdom) : gst S a q g ∈ rdom := by
  unfold gst
  split
  · split
    · exact bst_dom q h _
    · split
      · exact bst_dom q h _
      · exact h
  · exact h
theorem gfold_dom {S : MS} {a : Nat} : ∀ (l : List Nat) (q : Int32 × Int32), q ∈ rdom → l.foldl (gst S a) q ∈ rdom := by
  intro l
  induction l with
  | nil => intro q h; exact h
  | cons g t ih => intro q h; exact ih _ (gst_dom h)
theorem stdF_dom {S : MS} {a : Nat} {l : List Nat} (h : IV (m_I S 0 a) 21) : stdF S a l ∈ rdom := gfold_dom l _ (rdom_0 h)
/-- the games' part of the state that ranks hang on -/
def Gq (S S2 : MS) (l : List Nat) : Prop := ∀ g ∈ l, m_I S2 9 g = m_I S 9 g ∧ m_I S2 5 g = m_I S 5 g ∧ m_I S2 6 g = m_I S 6 g ∧ m_I S2 8 g = m_I S 8 g
theorem gfold_q {S S2 : MS} {a : Nat} : ∀ (l : List Nat) (q : Int32 × Int32), Gq S S2 l → l.foldl (gst S2 a) q = l.foldl (gst S a) q := by
  intro l
  induction l with
  | nil => intro q h; rfl
  | cons g t ih =>
    intro q h
    have h1 := h g List.mem_cons_self
    rw [List.foldl_cons, List.foldl_cons, ih _ (fun x hx => h x (List.mem_cons_of_mem _ hx))]
    congr 1
    unfold gst
    rw [h1.1, h1.2.1, h1.2.2.1, h1.2.2.2]
theorem stdF_q {S S2 : MS} {a : Nat} {l : List Nat} (h : Gq S S2 l) (h0 : m_I S2 0 a = m_I S 0 a) : stdF S2 a l = stdF S a l := by
  unfold stdF
  rw [h0]; exact gfold_q l _ h
/-- games that count for nothing may be left out -/
theorem gfold_filter {S : MS} {a : Nat} {kp : Nat → Bool} : ∀ (l : List Nat) (q : Int32 × Int32), (∀ g ∈ l, kp g = false → m_I S 9 g ≠ 0) → (l.filter kp).foldl (gst S a) q = l.foldl (gst S a) q := by
  intro l
  induction l with
  | nil => intro q h; rfl
  | cons g t ih =>
    intro q h
    have ht : ∀ g ∈ t, kp g = false → m_I S 9 g ≠ 0 := fun x hx => h x (List.mem_cons_of_mem _ hx)
    rw [List.foldl_cons]
    cases hk : kp g
    · rw [List.filter_cons_of_neg (by simp [hk]), ih _ ht]
      congr 1
      unfold gst
      rw [if_neg (h g List.mem_cons_self hk)]
    · rw [List.filter_cons_of_pos hk, List.foldl_cons, ih _ ht]
/-- the reference: one game -/
def Eq12 (S S2 : MS) : Prop := m_i S2 = m_i S ∧ m_j S2 = m_j S ∧ (∀ a, a ≠ 1 → a ≠ 2 → m_I S2 a = m_I S a) ∧ m_J S2 = m_J S
theorem Eq12.rf {S : MS} : Eq12 S S := ⟨rfl, rfl, fun _ _ _ => rfl, rfl⟩
theorem Eq12.tr {S S2 S3 : MS} (h : Eq12 S S2) (h2 : Eq12 S2 S3) : Eq12 S S3 := ⟨h2.1.trans h.1, h2.2.1.trans h.2.1, fun a p q => (h2.2.2.1 a p q).trans (h.2.2.1 a p q), h2.2.2.2.trans h.2.2.2⟩
theorem Eq12.I {S : MS} {k i : Nat} {v : Int32} (h : k = 1 ∨ k = 2) : Eq12 S (ms_I S k i v) := by
  refine ⟨rfl, rfl, fun a h1 h2 => ?_, rfl⟩
  funext j; rw [mI_I, if_neg (by omega)]
/-- rank and string of b by S2 are what f makes of those by S -/
def Rk (S S2 : MS) (f : Nat → Int32 × Int32 → Int32 × Int32) : Prop := ∀ b, b < 8 → (m_I S2 1 b, m_I S2 2 b) = f b (m_I S 1 b, m_I S 2 b)
theorem grows_54 (S : MS) {a : Nat} (ha : a < 8) (s : Int32) : ∃ S2, fX9_grows_54 S (nI a) (nI a) s = some S2 ∧ Eq12 S S2 ∧
    (∀ b, b ≠ a → m_I S2 1 b = m_I S 1 b ∧ m_I S2 2 b = m_I S 2 b) ∧
    (m_I S2 1 a, m_I S2 2 a) = (if s = 3 then (if 20 ≤ m_I S 1 a then m_I S 1 a + 0 else m_I S 1 a + 1, 0) else if s = -3 then (if m_I S 1 a ≤ 0 then m_I S 1 a - 0 else m_I S 1 a - 1, 0) else (m_I S 1 a, s)) := by
  have hx := xin_nI ha (by omega)
  have hc := clp (k := a) (by omega)
  unfold fX9_grows_54 fX9_grows_88 fX9_grows_132
  rw [if_pos hx, if_pos hx, hc]
  simp only [hx, hc, if_true, Option.bind_some, mI_I, and_self, Nat.reduceEqDiff, false_and, if_false]
  have key : ∀ v : Int32, Eq12 S (ms_I (ms_I (ms_I S 2 a s) 1 a v) 2 a 0) ∧ (∀ b, b ≠ a → m_I (ms_I (ms_I (ms_I S 2 a s) 1 a v) 2 a 0) 1 b = m_I S 1 b ∧ m_I (ms_I (ms_I (ms_I S 2 a s) 1 a v) 2 a 0) 2 b = m_I S 2 b) ∧ (m_I (ms_I (ms_I (ms_I S 2 a s) 1 a v) 2 a 0) 1 a, m_I (ms_I (ms_I (ms_I S 2 a s) 1 a v) 2 a 0) 2 a) = (v, 0) := by
    intro v
    refine ⟨((Eq12.I (Or.inr rfl)).tr (Eq12.I (Or.inl rfl))).tr (Eq12.I (Or.inr rfl)), fun b hb => ?_, ?_⟩
    · constructor <;> simp [mI_I, hb]
    · simp [mI_I]
  by_cases h3 : s = 3
  · rw [if_pos h3, if_pos h3]
    by_cases h20 : 20 ≤ m_I S 1 a
    · rw [if_pos h20, if_pos h20]; exact ⟨_, rfl, key _⟩
    · rw [if_neg h20, if_neg h20]; exact ⟨_, rfl, key _⟩
  · rw [if_neg h3, if_neg h3]
    by_cases hm : s = -3
    · rw [if_pos hm, if_pos hm]
      by_cases h20 : m_I S 1 a ≤ 0
      · rw [if_pos h20, if_pos h20]; exact ⟨_, rfl, key _⟩
      · rw [if_neg h20, if_neg h20]; exact ⟨_, rfl, key _⟩
    · rw [if_neg hm, if_neg hm]
      refine ⟨_, rfl, Eq12.I (Or.inr rfl), fun b hb => ?_, ?_⟩
      · constructor <;> simp [mI_I, hb]
      · simp [mI_I]
theorem grows_X9 (S : MS) {a : Nat} (ha : a < 8) (w : Bool) : ∃ S2, fX9_grows S (nI a) (bi w) = some S2 ∧ Eq12 S S2 ∧ Rk S S2 (fun b q => if b = a then bst w q else q) := by
  have hx := xin_nI ha (by omega)
  have hc := clp (k := a) (by omega)
  have fin : ∀ s : Int32, (s = if w = true then (if m_I S 2 a ≤ 0 then 1 else m_I S 2 a + 1) else (if 0 ≤ m_I S 2 a then -1 else m_I S 2 a - 1)) → ∃ S2, fX9_grows_54 S (nI a) (nI a) s = some S2 ∧ Eq12 S S2 ∧ Rk S S2 (fun b q => if b = a then bst w q else q) := by
    intro s hs
    obtain ⟨S2, h1, h2, h3, h4⟩ := grows_54 S ha s
    refine ⟨S2, h1, h2, fun b _ => ?_⟩
    by_cases hb : b = a
    · subst hb
      simp only [if_true]
      rw [h4, hs]
      unfold bst
      rfl
    · simp only [if_neg hb]
      rw [(h3 b hb).1, (h3 b hb).2]
  unfold fX9_grows
  rw [hx, hc]
  cases w with
  | false =>
    simp only [bi, if_true]
    by_cases h : 0 ≤ m_I S 2 a
    · rw [if_pos h]; exact fin _ (by simp [h])
    · rw [if_neg h]; exact fin _ (by simp [h])
  | true =>
    have e : ¬ (bi true = 0) := by decide
    rw [if_neg e, if_pos rfl]
    by_cases h : m_I S 2 a ≤ 0
    · rw [if_pos h]; exact fin _ (by simp [h])
    · rw [if_neg h]; exact fin _ (by simp [h])
theorem counts_X9 (S : MS) {g x y : Nat} (hg : g < 16) (hx : m_I S 5 g = nI x) (hy : m_I S 6 g = nI y) (hx8 : x < 8) (hy8 : y < 8) (hxy : x ≠ y) (hv : m_I S 9 g = 0) :
    ∃ S2, fX9_counts S (nI g) = some S2 ∧ Eq12 S S2 ∧ Rk S S2 (fun b q => gst S b q g) := by
  have hxg := xin_nI hg (by omega)
  have hc := clp (k := g) (by omega)
  have b1 : ∀ w : Bool, ∃ S2, fX9_counts_22 S (nI g) (nI x) (bi w) = some S2 ∧ Eq12 S S2 ∧ Rk S S2 (fun b q => if b = x then bst w q else if b = y then bst (decide (m_I S 8 g = 2)) q else q) := by
    intro w
    obtain ⟨S2, h1, h2, h3⟩ := grows_X9 S hx8 w
    have e8 : m_I S2 8 = m_I S 8 := h2.2.2.1 8 (by omega) (by omega)
    have e6 : m_I S2 6 = m_I S 6 := h2.2.2.1 6 (by omega) (by omega)
    unfold fX9_counts_22 fX9_counts_47
    rw [h1, Option.bind_some, if_pos hxg, hc, e8, e6, hy]
    have go : ∀ w2 : Bool, (decide (m_I S 8 g = 2) = w2) → ∃ S3, (fX9_grows S2 (nI y) (bi w2)).bind (fun q1 => some q1) = some S3 ∧ Eq12 S S3 ∧ Rk S S3 (fun b q => if b = x then bst w q else if b = y then bst (decide (m_I S 8 g = 2)) q else q) := by
      intro w2 hw2
      obtain ⟨S3, k1, k2, k3⟩ := grows_X9 S2 hy8 w2
      refine ⟨S3, by rw [k1]; rfl, h2.tr k2, fun b hb => ?_⟩
      rw [k3 b hb, h3 b hb, hw2]
      by_cases h5 : b = x
      · subst h5; simp [hxy]
      · simp [h5]
    by_cases h8 : m_I S 8 g = 2
    · rw [if_pos h8]; exact go true (by simp [h8])
    · rw [if_neg h8]; exact go false (by simp [h8])
  unfold fX9_counts
  rw [if_pos hxg, hc, hx]
  have fin : ∀ w : Bool, decide (m_I S 8 g = 1) = w → ∃ S2, fX9_counts_22 S (nI g) (nI x) (bi w) = some S2 ∧ Eq12 S S2 ∧ Rk S S2 (fun b q => gst S b q g) := by
    intro w hw
    obtain ⟨S2, h1, h2, h3⟩ := b1 w
    refine ⟨S2, h1, h2, fun b hb => ?_⟩
    rw [h3 b hb]
    show (if b = x then bst w (m_I S 1 b, m_I S 2 b) else if b = y then bst (decide (m_I S 8 g = 2)) (m_I S 1 b, m_I S 2 b) else (m_I S 1 b, m_I S 2 b)) = gst S b (m_I S 1 b, m_I S 2 b) g
    unfold gst
    rw [if_pos hv, hx, hy, hw]
    by_cases h5 : b = x
    · subst h5; rw [if_pos rfl, if_pos rfl]
    · have n1 : ¬ nI x = nI b := fun e => h5 ((nI_eq (by omega) (by omega)).mp e).symm
      rw [if_neg h5, if_neg n1]
      by_cases h6 : b = y
      · subst h6; rw [if_pos rfl, if_pos rfl]
      · have n2 : ¬ nI y = nI b := fun e => h6 ((nI_eq (by omega) (by omega)).mp e).symm
        rw [if_neg h6, if_neg n2]
  by_cases h8 : m_I S 8 g = 1
  · rw [if_pos h8]; exact fin true (by simp [h8])
  · rw [if_neg h8]; exact fin false (by simp [h8])

/-- a game of the list: who has which colour -/
def Gok (S : MS) (l : List Nat) : Prop := ∀ g ∈ l, g < 16 ∧ (m_I S 9 g = 0 ∨ m_I S 9 g = 1) ∧ ∃ x y, m_I S 5 g = nI x ∧ m_I S 6 g = nI y ∧ x < 8 ∧ y < 8 ∧ x ≠ y
theorem Eq12.gq {S S2 : MS} {l : List Nat} (h : Eq12 S S2) : Gq S S2 l := fun g _ => by
  rw [h.2.2.1 9 (by omega) (by omega), h.2.2.1 5 (by omega) (by omega), h.2.2.1 6 (by omega) (by omega), h.2.2.1 8 (by omega) (by omega)]
  exact ⟨rfl, rfl, rfl, rfl⟩
theorem Gok.eq {S S2 : MS} {l : List Nat} (h : Gok S l) (e : Eq12 S S2) : Gok S2 l := fun g hg => by
  rw [e.2.2.1 9 (by omega) (by omega), e.2.2.1 5 (by omega) (by omega), e.2.2.1 6 (by omega) (by omega)]
  exact h g hg
theorem gst_q {S S2 : MS} {a g : Nat} {q : Int32 × Int32} (e : Eq12 S S2) : gst S2 a q g = gst S a q g := by
  unfold gst
  rw [e.2.2.1 9 (by omega) (by omega), e.2.2.1 5 (by omega) (by omega), e.2.2.1 6 (by omega) (by omega), e.2.2.1 8 (by omega) (by omega)]
theorem finds_37 : ∀ (l : List Nat) (n : Nat) (S : MS) (i m : Nat), l.length < n → i + l.length = m → m ≤ 16 → Gok S l → (∀ j g, l[j]? = some g → m_I S 17 (i + j) = nI g) →
    ∃ S2, fX9_finds_37 n S (nI m) (nI i) = some S2 ∧ Eq12 S S2 ∧ Rk S S2 (fun b q => l.foldl (gst S b) q) := by
  intro l
  induction l with
  | nil =>
    intro n S i m hn hm h16 _ _
    obtain ⟨n, rfl⟩ : ∃ k, n = k + 1 := ⟨n - 1, by have : 0 < n := hn; omega⟩
    rw [fX9_finds_37, if_pos (nI_le (by simp at hm; omega) (by omega))]
    exact ⟨S, rfl, Eq12.rf, fun b _ => rfl⟩
  | cons g t ih =>
    intro n S i m hn hm h16 hG ho
    obtain ⟨n, rfl⟩ : ∃ k, n = k + 1 := ⟨n - 1, by simp at hn; omega⟩
    simp only [List.length_cons] at hn hm
    have hi : i < 16 := by omega
    have h17 := ho 0 g rfl
    rw [Nat.add_zero] at h17
    obtain ⟨hg, hv, x, y, hx, hy, hx8, hy8, hxy⟩ := hG g List.mem_cons_self
    have hGt : Gok S t := fun z hz => hG z (List.mem_cons_of_mem _ hz)
    have hot : ∀ j g', t[j]? = some g' → m_I S 17 (i + 1 + j) = nI g' := fun j g' hj => by
      have := ho (j + 1) g' (by simpa using hj)
      rw [← this]; congr 1; omega
    rw [fX9_finds_37, if_neg (nI_ge (by omega) (by omega)), if_pos (xin_nI hi (by omega)), clp (by omega), h17, if_pos (xin_nI hg (by omega)), clp (k := g) (by omega)]
    unfold fX9_finds_66
    rw [nI_1]
    rcases hv with hv | hv
    · rw [if_pos hv]
      obtain ⟨S1, h1, h2, h3⟩ := counts_X9 S hg hx hy hx8 hy8 hxy hv
      rw [h1, Option.bind_some]
      obtain ⟨S2, k1, k2, k3⟩ := ih n S1 (i + 1) m (by omega) (by omega) h16 (hGt.eq h2) (fun j g' hj => by rw [h2.2.2.1 17 (by omega) (by omega)]; exact hot j g' hj)
      refine ⟨S2, k1, h2.tr k2, fun b hb => ?_⟩
      rw [k3 b hb, h3 b hb]
      show t.foldl (gst S1 b) (gst S b (m_I S 1 b, m_I S 2 b) g) = (g :: t).foldl (gst S b) (m_I S 1 b, m_I S 2 b)
      rw [List.foldl_cons]
      exact gfold_q t _ h2.gq
    · rw [if_neg (by rw [hv]; decide)]
      obtain ⟨S2, k1, k2, k3⟩ := ih n S (i + 1) m (by omega) (by omega) h16 hGt hot
      refine ⟨S2, k1, k2, fun b hb => ?_⟩
      rw [k3 b hb]
      show t.foldl (gst S b) (m_I S 1 b, m_I S 2 b) = (g :: t).foldl (gst S b) (m_I S 1 b, m_I S 2 b)
      rw [List.foldl_cons]
      congr 1
      unfold gst
      rw [if_neg (by rw [hv]; decide)]
theorem finds_2 (l : List Nat) (m P : Nat) (hP : P ≤ 8) (hm : l.length = m) (h16 : m ≤ 16) : ∀ (d n : Nat) (S : MS) (i : Nat), i + d = P → d < n → m_i S 0 = nI P → Gok S l → (∀ j g, l[j]? = some g → m_I S 17 j = nI g) →
    ∃ S2, fX9_finds_2 n S (nI m) (nI i) = some S2 ∧ Eq12 S S2 ∧ (∀ b, b < 8 → (m_I S2 1 b, m_I S2 2 b) = l.foldl (gst S b) (if i ≤ b ∧ b < P then (m_I S 0 b, 0) else (m_I S 1 b, m_I S 2 b))) := by
  intro d
  induction d with
  | zero =>
    intro n S i hi hn h0 hG ho
    obtain ⟨n, rfl⟩ : ∃ k, n = k + 1 := ⟨n - 1, by omega⟩
    rw [fX9_finds_2, if_pos (by rw [h0]; exact nI_le (by omega) (by omega))]
    have hl : l.length < FU := by rw [hm]; unfold FU; omega
    obtain ⟨S2, k1, k2, k3⟩ := finds_37 l FU S 0 m hl (by omega) h16 hG (fun j g hj => by rw [Nat.zero_add]; exact ho j g hj)
    refine ⟨S2, k1, k2, fun b hb => ?_⟩
    rw [k3 b hb, if_neg (by omega)]
  | succ d ih =>
    intro n S i hi hn h0 hG ho
    obtain ⟨n, rfl⟩ : ∃ k, n = k + 1 := ⟨n - 1, by omega⟩
    have hi8 : i < 8 := by omega
    rw [fX9_finds_2, if_neg (by rw [h0]; exact nI_ge (by omega) (by omega)), if_pos (xin_nI hi8 (by omega)), Option.bind_some, clp (by omega), nI_1]
    have e : Eq12 S (ms_I (ms_I S 1 i (m_I S 0 i)) 2 i 0) := (Eq12.I (Or.inl rfl)).tr (Eq12.I (Or.inr rfl))
    obtain ⟨S2, k1, k2, k3⟩ := ih n (ms_I (ms_I S 1 i (m_I S 0 i)) 2 i 0) (i + 1) (by omega) (by omega) h0 (hG.eq e) (fun j g hj => by rw [e.2.2.1 17 (by omega) (by omega)]; exact ho j g hj)
    refine ⟨S2, k1, e.tr k2, fun b hb => ?_⟩
    rw [k3 b hb, gfold_q l _ e.gq]
    congr 1
    by_cases hb2 : b = i
    · subst hb2
      rw [if_neg (by omega), if_pos (by omega)]
      simp [mI_I]
    · by_cases hb3 : i ≤ b ∧ b < P
      · rw [if_pos (by omega), if_pos hb3]; simp [mI_I]
      · rw [if_neg (by omega), if_neg hb3]; simp [mI_I, hb2]
/-- both players of a listed game are among the first P -/
def Gon (S : MS) (P : Nat) (l : List Nat) : Prop := ∀ g ∈ l, ∃ x y, m_I S 5 g = nI x ∧ m_I S 6 g = nI y ∧ x < P ∧ y < P
/-- who has not come yet has neither rank nor string -/
def Zr (S : MS) (P : Nat) : Prop := ∀ b, P ≤ b → b < 8 → (m_I S 1 b, m_I S 2 b) = (0, 0)
theorem Gon.eq {S S2 : MS} {P : Nat} {l : List Nat} (h : Gon S P l) (e : Eq12 S S2) : Gon S2 P l := fun g hg => by
  rw [e.2.2.1 5 (by omega) (by omega), e.2.2.1 6 (by omega) (by omega)]
  exact h g hg
theorem gst_out {S : MS} {P b g : Nat} {q : Int32 × Int32} (h : ∃ x y, m_I S 5 g = nI x ∧ m_I S 6 g = nI y ∧ x < P ∧ y < P) (hb : P ≤ b) (hb8 : b < 8) : gst S b q g = q := by
  obtain ⟨x, y, hx, hy, hx2, hy2⟩ := h
  have n1 : ¬ nI x = nI b := fun e => by have := (nI_eq (by omega) (by omega)).mp e; omega
  have n2 : ¬ nI y = nI b := fun e => by have := (nI_eq (by omega) (by omega)).mp e; omega
  unfold gst
  rw [hx, hy, if_neg n1, if_neg n2]
  split <;> rfl
theorem gfold_out {S : MS} {P b : Nat} (hb : P ≤ b) (hb8 : b < 8) : ∀ (l : List Nat) (q : Int32 × Int32), Gon S P l → l.foldl (gst S b) q = q := by
  intro l
  induction l with
  | nil => intro q _; rfl
  | cons g t ih =>
    intro q h
    rw [List.foldl_cons, gst_out (h g List.mem_cons_self) hb hb8]
    exact ih q (fun x hx => h x (List.mem_cons_of_mem _ hx))
theorem finds_X9 {l : List Nat} {S : MS} {P : Nat} (hP : P ≤ 8) (h16 : l.length ≤ 16) (h0 : m_i S 0 = nI P) (hG : Gok S l) (ho : ∀ j g, l[j]? = some g → m_I S 17 j = nI g) (hn : Gon S P l) (hz : Zr S P) :
    ∃ S2, fX9_finds S (nI l.length) = some S2 ∧ Eq12 S S2 ∧ ∀ b, b < 8 → (m_I S2 1 b, m_I S2 2 b) = if b < P then stdF S b l else (0, 0) := by
  obtain ⟨S2, k1, k2, k3⟩ := finds_2 l l.length P hP rfl h16 P FU S 0 (by omega) (by unfold FU; omega) h0 hG ho
  refine ⟨S2, ?_, k2, fun b hb => ?_⟩
  · unfold fX9_finds; rw [show (0 : Int32) = nI 0 by decide]; exact k1
  · rw [k3 b hb]
    by_cases q : b < P
    · rw [if_pos ⟨Nat.zero_le b, q⟩, if_pos q]; rfl
    · rw [if_neg (fun z => q z.2), if_neg q, gfold_out (by omega) hb l _ hn]
      exact hz b (by omega) hb
/-! PURE 7: the class's standing, the due pairing, the games that are off. -/
/-- the club's own cells: it lies at c, its rows behind it -/
def CB (h : TH) (c : Nat) : Prop := t_kd h c = 2 ∧ (t_R h c 0 = some (c + 1) ∧ t_kd h (c + 1) = 9 ∧ t_ln h (c + 1) = 8) ∧ (t_R h c 2 = some (c + 2) ∧ t_kd h (c + 2) = 12 ∧ t_ln h (c + 2) = 16) ∧ t_R h c 4 = some (c + 3) ∧ t_kd h (c + 3) = 12 ∧ t_ln h (c + 3) = 16
/-- a game, as far as ranks hang on it: x is black, y is white -/
def MG (h : TH) (S : MS) (p g : Nat) : Prop := t_kd h p = 3 ∧ t_I h p 9 = m_I S 9 g ∧ t_I h p 8 = m_I S 8 g ∧ ∃ x y hc, m_I S 5 g = nI x ∧ m_I S 6 g = nI y ∧ m_I S 7 g = nI hc ∧ x < 8 ∧ y < 8 ∧ x ≠ y ∧ hc ≤ 4 ∧ t_I h p 2 = nI (100 * x + 10 * y + hc) ∧ ((t_I h p 0 = nI x ∧ t_I h p 1 = nI y) ∨ (t_I h p 0 = nI y ∧ t_I h p 1 = nI x))
def St12 (S : MS) (g : Nat) : Prop := m_I S 9 g = 0 → m_I S 8 g = 1 ∨ m_I S 8 g = 2
theorem i32_100 : (100 : Int32) = nI 100 := by decide
theorem i32_10 : (10 : Int32) = nI 10 := by decide
theorem st_108 {k : TH → Nat → Int32 → Int32 → Int32 → Int32 → Int32 → Option Int32} {h : TH} {t : Nat} {a1 a2 a3 a4 a5 : Int32} (w : Bool) : fX2_standing_108 k h t a1 a2 a3 a5 (if w = true then x_max a4 0 + 1 else x_min a4 0 - 1) = k h t a1 a2 (cst w (a3, a4)).1 (cst w (a3, a4)).2 (a5 + 1) := by
  unfold fX2_standing_108 fX2_standing_123 fX2_standing_142 cst
  generalize (if w = true then x_max a4 0 + 1 else x_min a4 0 - 1) = s
  by_cases h3 : s = 3
  · simp [h3]
  · by_cases hm : s = -3
    · simp [hm]
    · simp [h3, hm]
theorem st_step {h : TH} {S : MS} {c p g a : Nat} {k : TH → Nat → Int32 → Int32 → Int32 → Int32 → Int32 → Option Int32} {a2 a3 a4 a5 : Int32} (hM : MG h S p g) (h12 : St12 S g) (ha : a < 8) (hd : (a3, a4) ∈ rdom) :
    (if t_kd h p = 3 then (if (t_I h p 9) = 0 then (fX3_isPlayedBy h p (nI a)).bind fun q11 => (if q11 = false then fX2_standing_142 k h c (nI a) a2 a3 a4 a5 else (fX3_winner h p).bind fun q13 => (if q13 = nI a then fX2_standing_108 k h c (nI a) a2 a3 a5 ((x_max a4 (0 : Int32)) + (1 : Int32)) else fX2_standing_108 k h c (nI a) a2 a3 a5 ((x_min a4 (0 : Int32)) - (1 : Int32)))) else fX2_standing_142 k h c (nI a) a2 a3 a4 a5) else none)
    = k h c (nI a) a2 (gst S a (a3, a4) g).1 (gst S a (a3, a4) g).2 (a5 + 1) := by
  obtain ⟨hk, h9, h8, x, y, hc, hx, hy, hh, hx8, hy8, hxy, hc4, h2, h01⟩ := hM
  rw [if_pos hk, h9]
  unfold gst
  by_cases hv : m_I S 9 g = 0
  · rw [if_pos hv, if_pos hv, hx, hy]
    have hw : fX3_winner h p = some (if m_I S 8 g = 1 then nI x else nI y) := by
      unfold fX3_winner
      rw [if_pos hk, h8, h2, i32_100, i32_10, pk_div (by omega) (by omega) (by omega), pk_div (by omega) (by omega) (by omega), pk_rem (by omega) (by omega) (by omega)]
      have e1 : (100 * x + 10 * y + hc) / 100 = x := by omega
      have e2 : (100 * x + 10 * y + hc) / 10 % 10 = y := by omega
      rw [e1, e2]
      by_cases hs : m_I S 8 g = 1
      · rw [if_pos hs, if_pos hs]
      · rw [if_neg hs, if_neg hs]
    have hp : fX3_isPlayedBy h p (nI a) = some (decide (x = a) || decide (y = a)) := by
      unfold fX3_isPlayedBy
      rw [if_pos hk]
      rcases h01 with ⟨e0, e1⟩ | ⟨e0, e1⟩
      · rw [e0, e1]
        by_cases q1 : x = a
        · subst q1; rw [if_pos rfl]; simp
        · rw [if_neg (fun e => q1 ((nI_eq (by omega) (by omega)).mp e))]
          by_cases q2 : y = a
          · subst q2; rw [if_pos rfl]; simp
          · rw [if_neg (fun e => q2 ((nI_eq (by omega) (by omega)).mp e))]; simp [q1, q2]
      · rw [e0, e1]
        by_cases q1 : y = a
        · subst q1; rw [if_pos rfl]; simp
        · rw [if_neg (fun e => q1 ((nI_eq (by omega) (by omega)).mp e))]
          by_cases q2 : x = a
          · subst q2; rw [if_pos rfl]; simp
          · rw [if_neg (fun e => q2 ((nI_eq (by omega) (by omega)).mp e))]; simp [q1, q2]
    have h108 := fun w => st_108 (k := k) (h := h) (t := c) (a1 := nI a) (a2 := a2) (a3 := a3) (a4 := a4) (a5 := a5) w
    have t108 := h108 true
    have f108 := h108 false
    simp only [if_true, if_false, Bool.false_eq_true] at t108 f108
    rw [hp, Option.bind_some, hw]
    rw [cst_bst _ hd] at t108 f108
    by_cases q1 : x = a
    · subst q1
      have e0 : ¬ ((decide (x = x) || decide (y = x)) = false) := by simp
      rw [if_neg e0, Option.bind_some, if_pos rfl]
      by_cases hs : m_I S 8 g = 1
      · rw [if_pos hs, if_pos rfl, t108, decide_eq_true hs]
      · have n1 : ¬ nI y = nI x := fun e => hxy ((nI_eq (by omega) (by omega)).mp e).symm
        rw [if_neg hs, if_neg n1, f108, decide_eq_false hs]
    · have n0 : ¬ nI x = nI a := fun e => q1 ((nI_eq (by omega) (by omega)).mp e)
      by_cases q2 : y = a
      · subst q2
        have e0 : ¬ ((decide (x = y) || decide (y = y)) = false) := by simp
        rw [if_neg e0, Option.bind_some, if_neg n0, if_pos rfl]
        rcases h12 hv with hs | hs
        · rw [if_pos hs, if_neg n0, f108, decide_eq_false (by rw [hs]; decide)]
        · have n1 : ¬ m_I S 8 g = 1 := by rw [hs]; decide
          rw [if_neg n1, if_pos rfl, t108, decide_eq_true hs]
      · have n1 : ¬ nI y = nI a := fun e => q2 ((nI_eq (by omega) (by omega)).mp e)
        have e0 : (decide (x = a) || decide (y = a)) = false := by simp [q1, q2]
        rw [if_pos e0, if_neg n0, if_neg n1]
        rfl
  · rw [if_neg hv, if_neg hv]
    rfl
theorem standing_30 {h : TH} {S : MS} {c a : Nat} {gm : Nat → Nat} (hC : CB h c) (ha : a < 8) : ∀ (l : List Nat) (n i m : Nat) (r s : Int32), l.length < n → i + l.length = m → m ≤ 16 → (∀ j g, l[j]? = some g → t_R h (c + 3) (i + j) = some (gm g)) → (∀ g ∈ l, MG h S (gm g) g ∧ St12 S g) → (r, s) ∈ rdom →
    fX2_standing_30 n h c (nI a) (nI m) r s (nI i) = fX2_standing_148 h c (l.foldl (gst S a) (r, s)).1 (l.foldl (gst S a) (r, s)).2 := by
  intro l
  induction l with
  | nil =>
    intro n i m r s hn hm h16 _ _ _
    obtain ⟨n, rfl⟩ : ∃ k, n = k + 1 := ⟨n - 1, by have : 0 < n := hn; omega⟩
    rw [fX2_standing_30, if_pos (nI_le (by simp at hm; omega) (by omega))]
    rfl
  | cons g t ih =>
    intro n i m r s hn hm h16 hr hM hd
    obtain ⟨n, rfl⟩ : ∃ k, n = k + 1 := ⟨n - 1, by simp at hn; omega⟩
    simp only [List.length_cons] at hn hm
    have hi : i < 16 := by omega
    have h0 := hr 0 g rfl
    rw [Nat.add_zero i] at h0
    obtain ⟨hMg, h12⟩ := hM g List.mem_cons_self
    have hrt : ∀ j g', t[j]? = some g' → t_R h (c + 3) (i + 1 + j) = some (gm g') := fun j g' hj => by
      have := hr (j + 1) g' (by simpa using hj)
      rw [← this]; congr 1; omega
    rw [fX2_standing_30, if_neg (nI_ge (by omega) (by omega)), if_pos hC.1, hC.2.2.2.1, Option.bind_some, if_pos hC.2.2.2.2.1, hC.2.2.2.2.2, if_neg (nI_ge hi (by omega)), if_pos (xin_nI hi (by omega)), clp (by omega), h0, if_neg (by simp), Option.bind_some, st_step hMg h12 ha hd, nI_1, List.foldl_cons]
    exact ih n (i + 1) m _ _ (by omega) (by omega) h16 hrt (fun z hz => hM z (List.mem_cons_of_mem _ hz)) (gst_dom hd)
def told2 (q : Int32 × Int32) : Int32 := (10 : Int32) * q.1 + (if 0 ≤ q.2 then q.2 else 5 - q.2)
theorem st_148 {h : TH} {c : Nat} (q : Int32 × Int32) : fX2_standing_148 h c q.1 q.2 = some (told2 q) := by
  unfold fX2_standing_148 fX2_standing_166 told2
  by_cases h0 : 0 ≤ q.2
  · rw [if_pos h0, if_pos h0]
  · rw [if_neg h0, if_neg h0]
/-- the class's list of ended games begins with l -/
def Lst (h : TH) (c : Nat) (gm : Nat → Nat) (l : List Nat) : Prop := ∀ j g, l[j]? = some g → t_R h (c + 3) j = some (gm g)
theorem standing_X2 {h : TH} {S : MS} {c a : Nat} {gm : Nat → Nat} {l : List Nat} (hC : CB h c) (ha : a < 8) (h16 : l.length ≤ 16) (hr : Lst h c gm l) (hM : ∀ g ∈ l, MG h S (gm g) g ∧ St12 S g) (hv : IV (m_I S 0 a) 21) (h0 : t_I h (c + 1) a = m_I S 0 a) :
    fX2_standing h c (nI a) (nI l.length) = some (told2 (stdF S a l)) := by
  unfold fX2_standing fX2_standing_23
  rw [if_neg (nI_pos (by omega)), if_pos hC.1, hC.2.1.1, Option.bind_some, if_pos hC.2.1.2.1, hC.2.1.2.2, if_pos (nI_lt ha (by omega)), if_pos (xin_nI ha (by omega)), clp (by omega), h0]
  have hl : l.length < FU := by unfold FU; omega
  have := standing_30 hC ha l FU 0 l.length (m_I S 0 a) 0 hl (by omega) h16 (fun j g hj => by rw [Nat.zero_add]; exact hr j g hj) hM (rdom_0 hv)
  rw [show (nI 0 : Int32) = 0 by decide] at this
  rw [this]
  exact st_148 (h := h) (c := c) (stdF S a l)
/-- who has which colour, and the handicap, by the ranks of a list of games -/
def pairV (S : MS) (a b : Nat) (l : List Nat) : Int32 :=
  if (stdF S b l).1 < (stdF S a l).1 then 100 * nI b + 10 * nI a + x_min 4 (x_abs ((stdF S a l).1 - (stdF S b l).1)) else 100 * nI a + 10 * nI b + x_min 4 (x_abs ((stdF S a l).1 - (stdF S b l).1))
theorem pairing_X2 {h : TH} {S : MS} {c a b : Nat} {gm : Nat → Nat} {l : List Nat} (hC : CB h c) (ha : a < 8) (hb : b < 8) (h16 : l.length ≤ 16) (hr : Lst h c gm l) (hM : ∀ g ∈ l, MG h S (gm g) g ∧ St12 S g) (hva : IV (m_I S 0 a) 21) (h0a : t_I h (c + 1) a = m_I S 0 a) (hvb : IV (m_I S 0 b) 21) (h0b : t_I h (c + 1) b = m_I S 0 b) :
    fX2_pairing h c (nI a) (nI b) (nI l.length) = some (pairV S a b l) := by
  have ea : told2 (stdF S a l) / 10 = (stdF S a l).1 := rdom_s10 _ (stdF_dom hva)
  have eb : told2 (stdF S b l) / 10 = (stdF S b l).1 := rdom_s10 _ (stdF_dom hvb)
  unfold fX2_pairing
  rw [if_pos hC.1, standing_X2 hC ha h16 hr hM hva h0a, Option.bind_some, standing_X2 hC hb h16 hr hM hvb h0b, Option.bind_some, ea, eb]
  unfold pairV fX2_pairing_34 fX2_pairing_46 fX2_pairing_58
  by_cases hlt : (stdF S b l).1 < (stdF S a l).1
  · rw [if_pos hlt, if_pos hlt, if_pos rfl, if_pos rfl]
  · rw [if_neg hlt, if_neg hlt, if_neg (by decide), if_neg (by decide)]
theorem hdc_eq : ∀ r, r < 21 → ∀ s, s < 21 → x_min 4 (x_abs (nI r - nI s)) = (if (if nI s ≤ nI r then nI r - nI s else nI s - nI r) ≤ 4 then (if nI s ≤ nI r then nI r - nI s else nI s - nI r) else 4) := by decide +kernel
theorem hdc_le : ∀ r, r < 21 → ∀ s, s < 21 → ∃ k, k < 5 ∧ x_min 4 (x_abs (nI r - nI s)) = nI k := by decide +kernel
/-- the reference's helpers by the ranks that it holds -/
theorem blackOf_X9 {S : MS} {a b : Nat} (ha : a < 8) (hb : b < 8) : fX9_blackOf S (nI a) (nI b) = some (if m_I S 1 b < m_I S 1 a then nI b else nI a) := by
  unfold fX9_blackOf
  rw [if_pos (xin_nI hb (by omega)), if_pos (xin_nI ha (by omega)), clp (by omega), clp (by omega)]
  by_cases h : m_I S 1 a ≤ m_I S 1 b
  · rw [if_pos h, if_neg (Int32.not_lt.mpr h)]
  · rw [if_neg h, if_pos (Int32.not_le.mp h)]
theorem handicapOf_X9 {S : MS} {a b r s : Nat} (ha : a < 8) (hb : b < 8) (hr : m_I S 1 a = nI r) (hs : m_I S 1 b = nI s) (hr2 : r < 21) (hs2 : s < 21) : fX9_handicapOf S (nI a) (nI b) = some (x_min 4 (x_abs (m_I S 1 a - m_I S 1 b))) := by
  have hap : fX9_apart S (nI a) (nI b) = some (if nI s ≤ nI r then nI r - nI s else nI s - nI r) := by
    unfold fX9_apart
    rw [if_pos (xin_nI ha (by omega)), if_pos (xin_nI hb (by omega)), clp (by omega), clp (by omega), hr, hs]
    by_cases h : nI s ≤ nI r
    · rw [if_pos h, if_pos h]
    · rw [if_neg h, if_neg h]
  unfold fX9_handicapOf
  rw [hap, Option.bind_some, hr, hs, hdc_eq r hr2 s hs2]
  generalize (if nI s ≤ nI r then nI r - nI s else nI s - nI r) = d
  by_cases h : d ≤ 4
  · rw [if_pos h, if_pos h]; rfl
  · rw [if_neg h, if_neg h]
theorem nI_swap (a b : Nat) : nI a + nI b - nI a = nI b := by rw [nI_add, pk_sub (by omega)]; congr 1; omega
theorem nI_swap2 (a b : Nat) : nI a + nI b - nI b = nI a := by rw [nI_add, pk_sub (by omega)]; congr 1; omega
/-- the ranks that the reference holds are those of a list of games -/
def Rky (S : MS) (P : Nat) (l : List Nat) : Prop := ∀ b, b < 8 → (m_I S 1 b, m_I S 2 b) = if b < P then stdF S b l else (0, 0)
theorem Rky.p {S : MS} {P b : Nat} {l : List Nat} (h : Rky S P l) (hP : P ≤ 8) (hb : b < P) : (m_I S 1 b, m_I S 2 b) = stdF S b l := (h b (by omega)).trans (if_pos hb)
theorem Rky.r {S : MS} {P b : Nat} {l : List Nat} (h : Rky S P l) (hP : P ≤ 8) (hb : b < P) : m_I S 1 b = (stdF S b l).1 := congrArg Prod.fst (h.p hP hb)
theorem Rky.z {S : MS} {P : Nat} {l : List Nat} (h : Rky S P l) : Zr S P := fun b h1 h2 => (h b h2).trans (if_neg (by omega))
theorem stdF_12 {S S2 : MS} {a : Nat} {l : List Nat} (e : Eq12 S S2) : stdF S2 a l = stdF S a l := stdF_q e.gq (by rw [e.2.2.1 0 (by omega) (by omega)])
theorem pairV_12 {S S2 : MS} {a b : Nat} {l : List Nat} (e : Eq12 S S2) : pairV S2 a b l = pairV S a b l := by unfold pairV; rw [stdF_12 e, stdF_12 e]
/-- the list of all games that have ended, in the reference -/
def Ord (S : MS) (l : List Nat) : Prop := ∀ j g, l[j]? = some g → m_I S 17 j = nI g
theorem Ord.take {S : MS} {l : List Nat} {k : Nat} (h : Ord S l) : Ord S (l.take k) := fun j g hj => by
  rw [List.getElem?_take] at hj
  split at hj
  · exact h j g hj
  · cases hj
theorem Gok.take {S : MS} {l : List Nat} {k : Nat} (h : Gok S l) : Gok S (l.take k) := fun g hg => h g (List.mem_of_mem_take hg)
theorem dueOf_X9 {S : MS} {P g a b et : Nat} {l : List Nat} (hP : P ≤ 8) (h16 : l.length ≤ 16) (h0 : m_i S 0 = nI P) (hG : Gok S l) (ho : Ord S l) (hg : g < 16) (ha : a < P) (hb : b < P) (hgo : ∀ b, b < P → IV (m_I S 0 b) 21) (h3 : m_I S 3 g = nI a) (h4 : m_I S 4 g = nI b) (h10 : m_I S 10 g = nI et) (het : et ≤ l.length) (h19 : m_i S 19 = nI l.length) (hn : Gon S P l) (hz : Zr S P) :
    ∃ S2, fX9_dueOf S (nI g) = some (pairV S a b (l.take et), S2) ∧ Eq12 S S2 ∧ Rky S2 P l := by
  have hlt : (l.take et).length = et := by rw [List.length_take]; omega
  obtain ⟨S1, k1, e1, r1⟩ := finds_X9 (l := l.take et) hP (by omega) h0 hG.take ho.take (fun g hg => hn g (List.mem_of_mem_take hg)) hz
  rw [hlt] at k1
  have hG1 : Gok S1 l := hG.eq e1
  obtain ⟨S2, k2, e2, r2⟩ := finds_X9 (l := l) (S := S1) hP h16 (by rw [e1.1]; exact h0) hG1 (fun j g hj => by rw [e1.2.2.1 17 (by omega) (by omega)]; exact ho j g hj) (hn.eq e1) (fun b h1 h2 => (r1 b h2).trans (if_neg (by omega)))
  have f3 : m_I S1 3 = m_I S 3 := e1.2.2.1 3 (by omega) (by omega)
  have f4 : m_I S1 4 = m_I S 4 := e1.2.2.1 4 (by omega) (by omega)
  have ra : m_I S1 1 a = (stdF S a (l.take et)).1 := congrArg Prod.fst ((r1 a (by omega)).trans (if_pos ha))
  have rb : m_I S1 1 b = (stdF S b (l.take et)).1 := congrArg Prod.fst ((r1 b (by omega)).trans (if_pos hb))
  obtain ⟨r, hr, er⟩ := rdom_r _ (stdF_dom (l := l.take et) (hgo a ha))
  obtain ⟨s, hs, es⟩ := rdom_r _ (stdF_dom (l := l.take et) (hgo b hb))
  refine ⟨S2, ?_, e1.tr e2, fun b hb => by rw [r2 b hb, stdF_12 (e1.tr e2), stdF_12 e1]⟩
  unfold fX9_dueOf
  rw [if_pos (xin_nI hg (by omega)), clp (by omega), h10, k1, Option.bind_some, f3, f4, h3, h4, blackOf_X9 (by omega) (by omega), Option.bind_some, Option.bind_some, handicapOf_X9 (by omega) (by omega) (ra.trans er) (rb.trans es) hr hs, Option.bind_some, e1.1, h19, k2, Option.bind_some, ra, rb]
  unfold pairV
  congr 2
  by_cases hlt : (stdF S b (l.take et)).1 < (stdF S a (l.take et)).1
  · rw [if_pos hlt, if_pos hlt, nI_swap2]
  · rw [if_neg hlt, if_neg hlt, nI_swap]
/-! PURE 8: the relation between the class's objects and the reference's rows. -/
abbrev BW : Type := Int64 × Int64
/-- a board: two sets of points without a common one -/
def OKB (x : BW) : Prop := inA x.1 ∧ inA x.2 ∧ ∀ i, bt x.1 i = true → bt x.2 i = true → False
/-- the class's positions from q back; g tells who began -/
def WH (h : TH) (g : Nat) : Nat → List BW → Prop
  | _, [] => False
  | q, x :: l => t_kd h q = 4 ∧ t_J h q 0 = x.1 ∧ t_J h q 1 = x.2 ∧ t_I h q 2 = nI ((g + l.length) % 2) ∧ t_I h q 3 = nI l.length ∧ (l = [] → t_R h q 5 = none) ∧ (l ≠ [] → ∃ q', t_R h q 5 = some q' ∧ WH h g q' l)
/-- the reference's positions from place L back -/
def WM (S : MS) (P : Nat) : Nat → List BW → Prop
  | _, [] => False
  | L, x :: l => L < P ∧ m_J S 18 L = x.1 ∧ m_J S 19 L = x.2 ∧ (l = [] → m_I S 20 L = -1) ∧ (l ≠ [] → ∃ L', m_I S 20 L = nI L' ∧ WM S P L' l)
/-- how many liberties the chain at a point has -/
def stn (x : BW) (p : Nat) : Int64 := if bt x.1 p = true then x.1 else x.2
def lbc (x : BW) (p : Nat) : Nat := cnt (fr (fl (pt p) (stn x p)) x.1 x.2)
/-- who moves first in a game -/
def bg (S : MS) (i : Nat) : Nat := if m_I S 7 i ≤ 1 then 0 else 1
/-- the two clocks of a game lie ahead of it -/
def CK (h : TH) (S : MS) (p i : Nat) : Prop := t_R h p 4 = some (p - 2) ∧ t_R h p 5 = some (p - 1) ∧ (∃ j, 1 ≤ j ∧ j < 61 ∧ m_I S 16 i = nI j) ∧
  ∀ k, k < 2 → t_kd h (p - 2 + k) = 1 ∧ t_I h (p - 2 + k) 0 = m_I S 14 (2 * i + k) ∧ t_I h (p - 2 + k) 1 = m_I S 15 (2 * i + k) ∧ t_I h (p - 2 + k) 2 = m_I S 16 i ∧ IV (m_I S 14 (2 * i + k)) 3601 ∧ IV (m_I S 15 (2 * i + k)) 6
def GM (h : TH) (S : MS) (n p i : Nat) : Prop := 2 ≤ p ∧ MG h S p i ∧ (∃ a b, a < n ∧ b < n ∧ a ≠ b ∧ m_I S 3 i = nI a ∧ m_I S 4 i = nI b) ∧ t_I h p 0 = m_I S 3 i ∧ t_I h p 1 = m_I S 4 i ∧
  IV (m_I S 8 i) 3 ∧ (m_I S 9 i = 0 ∨ m_I S 9 i = 1) ∧ (m_I S 8 i = 0 → m_I S 9 i = 0) ∧ CK h S p i
/-- the position of a game and what came before -/
def PM (u : Nat) (h : TH) (S : MS) (P p i : Nat) (l : List BW) : Prop := (∀ x ∈ l, OKB x) ∧ (∃ q, t_R h p 6 = some q ∧ WH h (bg S i) q l ∧ t_I h q 4 = m_I S 13 i) ∧ (∃ L, m_I S 11 i = nI L ∧ WM S P L l) ∧ m_I S 12 i = nI (l.length - 1) ∧ IV (m_I S 13 i) 3 ∧ (m_I S 8 i = 0 → i ≠ u → IV (m_I S 13 i) 2) ∧
  t_R h p 7 = some (p + 1) ∧ t_kd h (p + 1) = 9 ∧ t_ln h (p + 1) = 49 ∧ ∀ y ∈ l.head?, ∀ k, k < 49 → t_I h (p + 1) k = nI (lbc y k)
def R0 (h : TH) (t c s : Nat) : Prop := t_kd h t = 7 ∧ t_R h t 0 = some c ∧ t_R h t 1 = some s ∧ CB h c ∧ t_kd h s = 5 ∧ (t_R h s 0 = some (s + 1) ∧ t_kd h (s + 1) = 13 ∧ t_ln h (s + 1) = 60) ∧ t_R h s 1 = some (s + 2) ∧ t_kd h (s + 2) = 13 ∧ t_ln h (s + 2) = 60
def R1 (h : TH) (S : MS) (c n : Nat) : Prop := n ≤ 8 ∧ t_I h c 1 = nI n ∧ m_i S 0 = nI n ∧ ∀ a, a < n → t_I h (c + 1) a = m_I S 0 a ∧ IV (m_I S 0 a) 21
def R2 (u : Nat) (h : TH) (S : MS) (c n G P : Nat) (gm : Nat → Nat) (gl : Nat → List BW) : Prop := G ≤ 16 ∧ t_I h c 3 = nI G ∧ m_i S 4 = nI G ∧ (∀ i, i < 16 → t_R h (c + 2) i = if i < G then some (gm i) else none) ∧ (∀ i j, i < G → j < G → gm i = gm j → i = j) ∧
  ∀ i, i < G → GM h S n (gm i) i ∧ PM u h S P (gm i) i (gl i)
def R3 (h : TH) (S : MS) (c n G : Nat) (gm : Nat → Nat) (ol : List Nat) (kp : Nat → Bool) : Prop := Ord S ol ∧ ol.length ≤ 16 ∧ m_i S 19 = nI ol.length ∧ ol.Nodup ∧ (∀ g ∈ ol, g < G ∧ m_I S 8 g ≠ 0) ∧ (∀ g, g < G → m_I S 8 g ≠ 0 → g ∈ ol) ∧
  t_I h c 5 = nI (ol.filter kp).length ∧ Lst h c gm (ol.filter kp) ∧ (∀ g ∈ ol, kp g = false → m_I S 9 g ≠ 0) ∧ (∀ i, i < G → ∃ et, et ≤ ol.length ∧ m_I S 10 i = nI et ∧ t_I h (gm i) 3 = nI ((ol.take et).filter kp).length) ∧ Rky S n ol
/-- the board behind a move: -1 is passing -/
def mvB (x : BW) (c : Int32) (v : Int32) : BW := if v = -1 then x else if c = 0 then (putO x.1 x.2 c v.toNatClampNeg, putA x.1 x.2 c v.toNatClampNeg) else (putA x.1 x.2 c v.toNatClampNeg, putO x.1 x.2 c v.toNatClampNeg)
/-- a node -/
def NM (h : TH) (S : MS) (G N : Nat) (nd : Nat → Nat) (gl nl : Nat → List BW) (i : Nat) : Prop :=
  t_kd h (nd i) = 6 ∧ t_I h (nd i) 0 = nI i ∧ t_I h (nd i) 4 = m_I S 30 i ∧ t_I h (nd i) 7 = nI ((List.range N).countP fun j => decide (m_I S 28 j = nI i)) ∧
  (t_R h (nd i) 6 = some (nd i + 1) ∧ t_kd h (nd i + 1) = 9 ∧ t_ln h (nd i + 1) = 4 ∧ ∀ k, k < 4 → t_I h (nd i + 1) k = m_I S 36 (4 * i + k)) ∧
  (∀ x ∈ nl i, OKB x) ∧
  ∃ rt g, rt ≤ i ∧ m_I S 29 i = nI rt ∧ t_I h (nd i) 1 = nI rt ∧ g < G ∧ m_I S 31 rt = nI g ∧ t_I h (nd i) 2 = nI g ∧
    (∃ q, t_R h (nd i) 5 = some q ∧ WH h (bg S g) q (nl i)) ∧ (nl i).head? = some (m_J S 34 i, m_J S 35 i) ∧ m_I S 33 i = nI ((bg S g + ((nl i).length - 1)) % 2) ∧
    ((rt = i ∧ m_I S 28 i = -1 ∧ t_R h (nd i) 3 = none ∧ m_I S 30 i = -2 ∧ m_I S 32 i = nI ((nl i).length - 1) ∧ ∃ pre, gl g = pre ++ nl i) ∨
     (∃ pr, pr < i ∧ m_I S 28 i = nI pr ∧ m_I S 29 pr = nI rt ∧ t_R h (nd i) 3 = some (nd pr) ∧ (m_I S 30 i = -1 ∨ IV (m_I S 30 i) 49) ∧ nl i = mvB (m_J S 34 pr, m_J S 35 pr) (m_I S 33 pr) (m_I S 30 i) :: nl pr))
def R4 (h : TH) (S : MS) (s G N : Nat) (nd : Nat → Nat) (gl nl : Nat → List BW) : Prop := N ≤ 60 ∧ t_I h s 2 = nI N ∧ m_i S 36 = nI N ∧ (∀ i, i < 60 → t_R h (s + 1) i = if i < N then some (nd i) else none) ∧ (∀ i j, i < N → j < N → nd i = nd j → i = j) ∧
  (∀ i j, i < N → j < N → m_I S 28 i ≠ -1 → m_I S 28 i = m_I S 28 j → m_I S 30 i = m_I S 30 j → i = j) ∧ ∀ i, i < N → NM h S G N nd gl nl i
/-- games and nodes that have not begun are blank -/
def Vg (S : MS) (G N : Nat) : Prop := (∀ i, G ≤ i → i < 16 → m_I S 8 i = 0 ∧ m_I S 9 i = 0 ∧ m_I S 12 i = 0 ∧ m_I S 13 i = 0) ∧ ∀ i k, N ≤ i → i < 60 → k < 4 → m_I S 36 (4 * i + k) = 0
theorem Vg.eq {S S2 : MS} {G N : Nat} (H : Vg S G N) (e : ∀ a j, (a = 36 ∨ ((a = 8 ∨ a = 9 ∨ a = 12 ∨ a = 13) ∧ G ≤ j)) → m_I S2 a j = m_I S a j) : Vg S2 G N := by
  refine ⟨fun i h1 h2 => ?_, fun i k h1 h2 h3 => by rw [e 36 _ (Or.inl rfl)]; exact H.2 i k h1 h2 h3⟩
  rw [e 8 i (by omega), e 9 i (by omega), e 12 i (by omega), e 13 i (by omega)]
  exact H.1 i h1 h2
def R5 (S : MS) (P G N : Nat) (gl : Nat → List BW) : Prop := m_i S 21 = nI P ∧ (∀ i, i < G → (gl i).length ≤ P) ∧ Vg S G N
theorem R5.eq {S S2 : MS} {P G N : Nat} {gl : Nat → List BW} (H : R5 S P G N gl) (e21 : m_i S2 21 = m_i S 21) (e : ∀ a j, (a = 36 ∨ ((a = 8 ∨ a = 9 ∨ a = 12 ∨ a = 13) ∧ G ≤ j)) → m_I S2 a j = m_I S a j) : R5 S2 P G N gl := ⟨e21.trans H.1, H.2.1, H.2.2.eq e⟩
def Rel (u mo : Nat) (h : TH) (S : MS) (t c s n G N P : Nat) (gm nd : Nat → Nat) (gl nl : Nat → List BW) (ol : List Nat) (kp : Nat → Bool) : Prop :=
  R0 h t c s ∧ R1 h S c n ∧ R2 u h S c n G P gm gl ∧ R3 h S c n G gm ol kp ∧ R4 h S s G N nd gl nl ∧ R5 S P G N gl ∧ LDp mo h
/-- the relation after at most K calls -/
def RR (mo t K : Nat) (h : TH) (S : MS) : Prop := ∃ c s n G N P gm nd gl nl ol kp, P ≤ K ∧ Rel 16 mo h S t c s n G N P gm nd gl nl ol kp
/-! what the reference does among itself changes nothing -/
theorem Sq.I' {n : Nat} {S S2 : MS} (h : Sq n S S2) (a : Nat) (h1 : a ≠ 1 ∧ a ≠ 2 ∧ a ≠ 27 ∧ a ≠ 37) : m_I S2 a = m_I S a := h.2.1 a h1.1 h1.2.1 h1.2.2.1 h1.2.2.2
theorem Sq.i' {n : Nat} {S S2 : MS} (h : Sq n S S2) (a : Nat) (h1 : a ≠ 27 ∧ a ≠ 28 ∧ a ≠ 47) : m_i S2 a = m_i S a := h.1 a h1.1 h1.2.1 h1.2.2
theorem Sq.J' {n : Nat} {S S2 : MS} (h : Sq n S S2) (a : Nat) (h1 : a < 21 ∨ 26 < a) : m_J S2 a = m_J S a := h.2.2.2 a h1
theorem WM.sq {n P : Nat} {S S2 : MS} (e : Sq n S S2) : ∀ (l : List BW) (L : Nat), WM S P L l → WM S2 P L l := by
  intro l
  induction l with
  | nil => intro L h; exact h.elim
  | cons x t ih =>
    intro L h
    obtain ⟨h1, h2, h3, h4, h5⟩ := h
    refine ⟨h1, by rw [e.J' 18 (by omega)]; exact h2, by rw [e.J' 19 (by omega)]; exact h3, fun q => by rw [e.I' 20 (by omega)]; exact h4 q, fun q => ?_⟩
    obtain ⟨L', a, b⟩ := h5 q
    exact ⟨L', by rw [e.I' 20 (by omega)]; exact a, ih L' b⟩
theorem Sq.gq {n : Nat} {S S2 : MS} {l : List Nat} (e : Sq n S S2) : Gq S S2 l := fun g _ => by
  rw [e.I' 9 (by omega), e.I' 5 (by omega), e.I' 6 (by omega), e.I' 8 (by omega)]
  exact ⟨rfl, rfl, rfl, rfl⟩
theorem stdF_sq {n a : Nat} {S S2 : MS} {l : List Nat} (e : Sq n S S2) : stdF S2 a l = stdF S a l := stdF_q e.gq (by rw [e.I' 0 (by omega)])
theorem MG.sq {n p g : Nat} {h : TH} {S S2 : MS} (e : Sq n S S2) (H : MG h S p g) : MG h S2 p g := by
  unfold MG at *
  rw [e.I' 9 (by omega), e.I' 8 (by omega), e.I' 5 (by omega), e.I' 6 (by omega), e.I' 7 (by omega)]
  exact H
theorem CK.sq {n p g : Nat} {h : TH} {S S2 : MS} (e : Sq n S S2) (H : CK h S p g) : CK h S2 p g := by
  unfold CK at *
  rw [e.I' 14 (by omega), e.I' 15 (by omega), e.I' 16 (by omega)]
  exact H
theorem bg_sq {n i : Nat} {S S2 : MS} (e : Sq n S S2) : bg S2 i = bg S i := by unfold bg; rw [e.I' 7 (by omega)]
theorem GM.sq {n m p i : Nat} {h : TH} {S S2 : MS} (e : Sq m S S2) (H : GM h S n p i) : GM h S2 n p i := by
  obtain ⟨h1, h2, h3, h4, h5, h6, h7, h8, h9⟩ := H
  refine ⟨h1, h2.sq e, ?_, ?_, ?_, ?_, ?_, ?_, h9.sq e⟩
  · rw [e.I' 3 (by omega), e.I' 4 (by omega)]; exact h3
  · rw [e.I' 3 (by omega)]; exact h4
  · rw [e.I' 4 (by omega)]; exact h5
  · rw [e.I' 8 (by omega)]; exact h6
  · rw [e.I' 9 (by omega)]; exact h7
  · rw [e.I' 8 (by omega), e.I' 9 (by omega)]; exact h8
theorem PM.sq {u : Nat} {m P p i : Nat} {l : List BW} {h : TH} {S S2 : MS} (e : Sq m S S2) (H : PM u h S P p i l) : PM u h S2 P p i l := by
  obtain ⟨h1, h2, ⟨L, h3, h4⟩, h5, h6, h7, h8⟩ := H
  refine ⟨h1, ?_, ⟨L, ?_, WM.sq e l L h4⟩, ?_, ?_, ?_, h8⟩
  · rw [bg_sq e, e.I' 13 (by omega)]; exact h2
  · rw [e.I' 11 (by omega)]; exact h3
  · rw [e.I' 12 (by omega)]; exact h5
  · rw [e.I' 13 (by omega)]; exact h6
  · rw [e.I' 8 (by omega), e.I' 13 (by omega)]; exact h7
theorem R1.sq {c n m : Nat} {h : TH} {S S2 : MS} (e : Sq m S S2) (H : R1 h S c n) : R1 h S2 c n := by
  unfold R1 at *
  rw [e.i' 0 (by omega), e.I' 0 (by omega)]
  exact H
theorem R2.sq {u : Nat} {c n m G P : Nat} {gm : Nat → Nat} {gl : Nat → List BW} {h : TH} {S S2 : MS} (e : Sq m S S2) (H : R2 u h S c n G P gm gl) : R2 u h S2 c n G P gm gl := by
  obtain ⟨h1, h2, h3, h4, h5, h6⟩ := H
  exact ⟨h1, h2, by rw [e.i' 4 (by omega)]; exact h3, h4, h5, fun i hi => ⟨(h6 i hi).1.sq e, (h6 i hi).2.sq e⟩⟩
theorem R3.sq {c n G : Nat} {gm : Nat → Nat} {ol : List Nat} {kp : Nat → Bool} {h : TH} {S S2 : MS} (e : Sq n S S2) (H : R3 h S c n G gm ol kp) : R3 h S2 c n G gm ol kp := by
  obtain ⟨h1, h2, h3, h4, h5, h6, h7, h8, h9, h10, h11⟩ := H
  unfold R3 Ord Rky at *
  rw [e.I' 17 (by omega), e.i' 19 (by omega), e.I' 8 (by omega), e.I' 9 (by omega), e.I' 10 (by omega)]
  refine ⟨h1, h2, h3, h4, h5, h6, h7, h8, h9, h10, fun b hb => ?_⟩
  rw [(e.2.2.1 b hb).1, (e.2.2.1 b hb).2, stdF_sq e]
  exact h11 b hb
theorem NM.sq {m G N i : Nat} {nd : Nat → Nat} {gl nl : Nat → List BW} {h : TH} {S S2 : MS} (e : Sq m S S2) (H : NM h S G N nd gl nl i) : NM h S2 G N nd gl nl i := by
  unfold NM at *
  simp only [e.I' 30 (by omega), e.I' 28 (by omega), e.I' 36 (by omega), e.I' 29 (by omega), e.I' 31 (by omega), e.I' 33 (by omega), e.I' 32 (by omega), e.J' 34 (by omega), e.J' 35 (by omega), bg_sq e]
  exact H
theorem R4.sq {s G N m : Nat} {nd : Nat → Nat} {gl nl : Nat → List BW} {h : TH} {S S2 : MS} (e : Sq m S S2) (H : R4 h S s G N nd gl nl) : R4 h S2 s G N nd gl nl := by
  obtain ⟨h1, h2, h3, h4, h5, h6, h7⟩ := H
  refine ⟨h1, h2, by rw [e.i' 36 (by omega)]; exact h3, h4, h5, ?_, fun i hi => (h7 i hi).sq e⟩
  rw [e.I' 28 (by omega), e.I' 30 (by omega)]; exact h6
theorem Rel.sq {u mo : Nat} {h : TH} {S S2 : MS} {t c s n G N P : Nat} {gm nd : Nat → Nat} {gl nl : Nat → List BW} {ol : List Nat} {kp : Nat → Bool} (e : Sq n S S2) (H : Rel u mo h S t c s n G N P gm nd gl nl ol kp) : Rel u mo h S2 t c s n G N P gm nd gl nl ol kp := by
  obtain ⟨h0, h1, h2, h3, h4, h5, h6⟩ := H
  exact ⟨h0, h1.sq e, h2.sq e, h3.sq e, h4.sq e, h5.eq (e.i' 21 (by omega)) (fun a j ha => by rw [e.I' a (by omega)]), h6⟩
/-! PURE 9: what stays when the class's objects change. -/
/-- kinds and lengths, positions and what is final stay -/
def Bx (h h2 : TH) : Prop := t_sz h ≤ t_sz h2 ∧ ∀ a, t_kd h a ≠ 0 → t_kd h2 a = t_kd h a ∧ t_ln h2 a = t_ln h a ∧
  (t_kd h a = 4 → t_I h2 a = t_I h a ∧ t_J h2 a = t_J h a ∧ t_R h2 a = t_R h a) ∧
  (t_kd h a = 2 ∨ t_kd h a = 5 ∨ t_kd h a = 7 → t_R h2 a = t_R h a) ∧
  (t_kd h a = 3 → (∀ k, k < 4 → t_I h2 a k = t_I h a k) ∧ t_R h2 a 4 = t_R h a 4 ∧ t_R h2 a 5 = t_R h a 5 ∧ t_R h2 a 7 = t_R h a 7) ∧
  (t_kd h a = 6 → t_R h2 a = t_R h a ∧ ∀ k, k ≠ 7 → t_I h2 a k = t_I h a k) ∧
  (t_kd h a = 1 → t_I h2 a 2 = t_I h a 2)
theorem Bx.rf {h : TH} : Bx h h := ⟨Nat.le_refl _, fun _ _ => ⟨rfl, rfl, fun _ => ⟨rfl, rfl, rfl⟩, fun _ => rfl, fun _ => ⟨fun _ _ => rfl, rfl, rfl, rfl⟩, fun _ => ⟨rfl, fun _ _ => rfl⟩, fun _ => rfl⟩⟩
theorem Bx.tr {h h2 h3 : TH} (A : Bx h h2) (B : Bx h2 h3) : Bx h h3 := by
  refine ⟨Nat.le_trans A.1 B.1, fun a ha => ?_⟩
  obtain ⟨a1, a2, a3, a4, a5, a6, a7⟩ := A.2 a ha
  obtain ⟨b1, b2, b3, b4, b5, b6, b7⟩ := B.2 a (by rw [a1]; exact ha)
  rw [a1] at b1 b3 b4 b5 b6 b7
  refine ⟨b1, b2.trans a2, fun q => ⟨(b3 q).1.trans (a3 q).1, (b3 q).2.1.trans (a3 q).2.1, (b3 q).2.2.trans (a3 q).2.2⟩, fun q => (b4 q).trans (a4 q), fun q => ⟨fun k hk => ((b5 q).1 k hk).trans ((a5 q).1 k hk), (b5 q).2.1.trans (a5 q).2.1, (b5 q).2.2.1.trans (a5 q).2.2.1, (b5 q).2.2.2.trans (a5 q).2.2.2⟩, fun q => ⟨(b6 q).1.trans (a6 q).1, fun k hk => ((b6 q).2 k hk).trans ((a6 q).2 k hk)⟩, fun q => (b7 q).trans (a7 q)⟩
theorem Bx.N {h h2 : TH} {kd n : Nat} (A : Bx h h2) (hf : t_kd h (t_sz h2) = 0) : Bx h (s_N h2 kd n) := by
  refine ⟨Nat.le_trans A.1 (Nat.le_succ _), fun a ha => ?_⟩
  have hne : a ≠ t_sz h2 := fun e => ha (by rw [e]; exact hf)
  have eI : t_I (s_N h2 kd n) a = t_I h2 a := funext fun j => by rw [I_sN, if_neg hne]
  have eJ : t_J (s_N h2 kd n) a = t_J h2 a := funext fun j => by rw [J_sN, if_neg hne]
  have eR : t_R (s_N h2 kd n) a = t_R h2 a := funext fun j => by rw [R_sN, if_neg hne]
  rw [kd_sN, if_neg hne, ln_sN, if_neg hne, eI, eJ, eR]
  exact A.2 a ha
/-- what may be written where: k a place, kinds by number -/
def okI (kd k : Nat) : Prop := kd = 0 ∨ kd = 9 ∨ kd = 2 ∨ kd = 5 ∨ (kd = 1 ∧ k ≠ 2) ∨ (kd = 3 ∧ 4 ≤ k) ∨ (kd = 6 ∧ k = 7)
def okR (kd k : Nat) : Prop := kd = 0 ∨ kd = 12 ∨ kd = 13 ∨ (kd = 3 ∧ k = 6)
theorem Bx.I {h h2 : TH} {a k : Nat} {v : Int32} (A : Bx h h2) (hk : okI (t_kd h a) k) : Bx h (s_I h2 a k v) := by
  refine ⟨A.1, fun b hb => ?_⟩
  by_cases e : b = a
  · subst e
    obtain ⟨a1, a2, a3, a4, a5, a6, a7⟩ := A.2 b hb
    unfold okI at hk
    refine ⟨a1, a2, fun q => by omega, fun q => a4 q, fun q => ⟨fun j hj => ?_, (a5 q).2⟩, fun q => ⟨(a6 q).1, fun j hj => ?_⟩, fun q => ?_⟩
    · rw [I_sI, if_neg (by omega)]; exact (a5 q).1 j hj
    · rw [I_sI, if_neg (by omega)]; exact (a6 q).2 j hj
    · rw [I_sI, if_neg (by omega)]; exact a7 q
  · have eI : t_I (s_I h2 a k v) b = t_I h2 b := x_up2_ne e
    rw [eI]
    exact A.2 b hb
theorem Bx.J {h h2 : TH} {a k : Nat} {v : Int64} (A : Bx h h2) (hk : t_kd h a = 0) : Bx h (s_J h2 a k v) := by
  refine ⟨A.1, fun b hb => ?_⟩
  have e : b ≠ a := fun e => hb (by rw [e]; exact hk)
  have eJ : t_J (s_J h2 a k v) b = t_J h2 b := x_up2_ne e
  rw [eJ]
  exact A.2 b hb
theorem Bx.R {h h2 : TH} {a k : Nat} {v : Option Nat} (A : Bx h h2) (hk : okR (t_kd h a) k) : Bx h (s_R h2 a k v) := by
  refine ⟨A.1, fun b hb => ?_⟩
  by_cases e : b = a
  · subst e
    obtain ⟨a1, a2, a3, a4, a5, a6, a7⟩ := A.2 b hb
    unfold okR at hk
    refine ⟨a1, a2, fun q => by omega, fun q => by omega, fun q => ⟨(a5 q).1, ?_, ?_, ?_⟩, fun q => by omega, a7⟩
    · rw [R_sR, if_neg (by omega)]; exact (a5 q).2.1
    · rw [R_sR, if_neg (by omega)]; exact (a5 q).2.2.1
    · rw [R_sR, if_neg (by omega)]; exact (a5 q).2.2.2
  · have eR : t_R (s_R h2 a k v) b = t_R h2 b := x_up2_ne e
    rw [eR]
    exact A.2 b hb
/-- a bigger heap with the same objects -/
theorem Bx.Z {h h2 : TH} {z : Nat} (A : Bx h h2) (hz : t_sz h2 ≤ z) : Bx h (z, h2.2) := ⟨Nat.le_trans A.1 hz, A.2⟩
theorem Bx.kd {h h2 : TH} (A : Bx h h2) {a k : Nat} (h1 : t_kd h a = k) (h0 : k ≠ 0 := by decide) : t_kd h2 a = k := by rw [(A.2 a (by omega)).1]; exact h1
theorem Bx.ln {h h2 : TH} (A : Bx h h2) {a k n : Nat} (h1 : t_kd h a = k) (h2' : t_ln h a = n) (h0 : k ≠ 0 := by decide) : t_ln h2 a = n := by rw [(A.2 a (by omega)).2.1]; exact h2'
theorem WH.bx {h h2 : TH} {g : Nat} (A : Bx h h2) : ∀ (l : List BW) (q : Nat), WH h g q l → WH h2 g q l := by
  intro l
  induction l with
  | nil => intro q H; exact H.elim
  | cons x t ih =>
    intro q H
    obtain ⟨h1, h2', h3, h4, h5, h6, h7⟩ := H
    obtain ⟨eI, eJ, eR⟩ := (A.2 q (by omega)).2.2.1 h1
    refine ⟨A.kd h1, by rw [eJ]; exact h2', by rw [eJ]; exact h3, by rw [eI]; exact h4, by rw [eI]; exact h5, fun q' => by rw [eR]; exact h6 q', fun q' => ?_⟩
    obtain ⟨p, a, b⟩ := h7 q'
    exact ⟨p, by rw [eR]; exact a, ih p b⟩
theorem CB.bx {h h2 : TH} {c : Nat} (A : Bx h h2) (H : CB h c) : CB h2 c := by
  obtain ⟨h1, ⟨h2', h3, h4⟩, ⟨h5, h6, h7⟩, h8, h9, h10⟩ := H
  have eR := (A.2 c (by omega)).2.2.2.1 (Or.inl h1)
  exact ⟨A.kd h1, ⟨by rw [eR]; exact h2', A.kd h3, A.ln h3 h4⟩, ⟨by rw [eR]; exact h5, A.kd h6, A.ln h6 h7⟩, by rw [eR]; exact h8, A.kd h9, A.ln h9 h10⟩
theorem R0.bx {h h2 : TH} {t c s : Nat} (A : Bx h h2) (H : R0 h t c s) : R0 h2 t c s := by
  obtain ⟨h1, h2', h3, h4, h5, ⟨h6, h7, h8⟩, h9, h10, h11⟩ := H
  have e7 := (A.2 t (by omega)).2.2.2.1 (Or.inr (Or.inr h1))
  have e5 := (A.2 s (by omega)).2.2.2.1 (Or.inr (Or.inl h5))
  exact ⟨A.kd h1, by rw [e7]; exact h2', by rw [e7]; exact h3, h4.bx A, A.kd h5, ⟨by rw [e5]; exact h6, A.kd h7, A.ln h7 h8⟩, by rw [e5]; exact h9, A.kd h10, A.ln h10 h11⟩
theorem R1.bx {h h2 : TH} {S : MS} {c n : Nat} (H : R1 h S c n) (h1 : t_I h2 c 1 = t_I h c 1) (h3 : ∀ a, a < 8 → t_I h2 (c + 1) a = t_I h (c + 1) a) : R1 h2 S c n := by
  obtain ⟨a1, a2, a3, a4⟩ := H
  exact ⟨a1, by rw [h1]; exact a2, a3, fun a ha => by rw [h3 a (by omega)]; exact a4 a ha⟩
theorem MG.bx {h h2 : TH} {S : MS} {p g : Nat} (A : Bx h h2) (H : MG h S p g) (h9 : t_I h2 p 9 = t_I h p 9) (h8 : t_I h2 p 8 = t_I h p 8) : MG h2 S p g := by
  obtain ⟨hk, H⟩ := H
  have e := ((A.2 p (by omega)).2.2.2.2.1 hk).1
  unfold MG
  rw [h9, h8, e 2 (by omega), e 0 (by omega), e 1 (by omega)]
  exact ⟨A.kd hk, H⟩
theorem CK.bx {h h2 : TH} {S : MS} {p g : Nat} (A : Bx h h2) (hk : t_kd h p = 3) (H : CK h S p g) (hc : ∀ k j, k < 2 → j < 2 → t_I h2 (p - 2 + k) j = t_I h (p - 2 + k) j) : CK h2 S p g := by
  obtain ⟨h1, h2', h3, h4⟩ := H
  have e := ((A.2 p (by omega)).2.2.2.2.1 hk)
  refine ⟨by rw [e.2.1]; exact h1, by rw [e.2.2.1]; exact h2', h3, fun k hk2 => ?_⟩
  obtain ⟨k1, k2, k3, k4, k5⟩ := h4 k hk2
  exact ⟨A.kd k1, by rw [hc k 0 hk2 (by omega)]; exact k2, by rw [hc k 1 hk2 (by omega)]; exact k3, by rw [(A.2 (p - 2 + k) (by omega)).2.2.2.2.2.2 k1]; exact k4, k5⟩
theorem GM.bx {h h2 : TH} {S : MS} {n p i : Nat} (A : Bx h h2) (H : GM h S n p i) (h9 : t_I h2 p 9 = t_I h p 9) (h8 : t_I h2 p 8 = t_I h p 8) (hc : ∀ k j, k < 2 → j < 2 → t_I h2 (p - 2 + k) j = t_I h (p - 2 + k) j) : GM h2 S n p i := by
  obtain ⟨a1, a2, a3, a4, a5, a6, a7, a8, a9⟩ := H
  have e := ((A.2 p (by have := a2.1; omega)).2.2.2.2.1 a2.1).1
  exact ⟨a1, a2.bx A h9 h8, a3, by rw [e 0 (by omega)]; exact a4, by rw [e 1 (by omega)]; exact a5, a6, a7, a8, a9.bx A a2.1 hc⟩
theorem PM.bx {u : Nat} {h h2 : TH} {S : MS} {P p i : Nat} {l : List BW} (A : Bx h h2) (hk : t_kd h p = 3) (H : PM u h S P p i l) (h6 : t_R h2 p 6 = t_R h p 6) (hkp : ∀ k, k < 49 → t_I h2 (p + 1) k = t_I h (p + 1) k) : PM u h2 S P p i l := by
  obtain ⟨a1, ⟨q, a2, a3, a4⟩, a5, a6, a7, a8, a9, a10, a11, a12⟩ := H
  have e := ((A.2 p (by omega)).2.2.2.2.1 hk)
  have hq : t_kd h q = 4 := by
    cases l with
    | nil => exact a3.elim
    | cons x t => exact a3.1
  have eq := ((A.2 q (by omega)).2.2.1 hq).1
  exact ⟨a1, ⟨q, by rw [h6]; exact a2, WH.bx A l q a3, by rw [eq]; exact a4⟩, a5, a6, a7, a8, by rw [e.2.2.2]; exact a9, A.kd a10, A.ln a10 a11, fun y hy k hk2 => by rw [hkp k hk2]; exact a12 y hy k hk2⟩
theorem NM.bx {h h2 : TH} {S S2 : MS} {G G2 N i : Nat} {nd : Nat → Nat} {gl gl2 nl : Nat → List BW} (A : Bx h h2) (H : NM h S G N nd gl nl i) (hG : G ≤ G2) (hgl : ∀ g, g < G → ∃ pre, gl2 g = pre ++ gl g) (hbg : ∀ g, g < G → bg S2 g = bg S g)
    (hS : ∀ a, 28 ≤ a → a ≤ 36 → m_I S2 a = m_I S a) (hJ : m_J S2 34 = m_J S 34 ∧ m_J S2 35 = m_J S 35) (h7 : t_I h2 (nd i) 7 = t_I h (nd i) 7) (hm : ∀ k, k < 4 → t_I h2 (nd i + 1) k = t_I h (nd i + 1) k) : NM h2 S2 G2 N nd gl2 nl i := by
  obtain ⟨a1, a2, a3, a4, ⟨a5, a6, a7, a8⟩, a9, rt, g, b1, b2, b3, b4, b5, b6, ⟨q, b7, b8⟩, b9, b10, b11⟩ := H
  obtain ⟨eR, eI⟩ := (A.2 (nd i) (by omega)).2.2.2.2.2.1 a1
  unfold NM
  rw [hS 28 (by omega) (by omega), hS 29 (by omega) (by omega), hS 30 (by omega) (by omega), hS 31 (by omega) (by omega), hS 32 (by omega) (by omega), hS 33 (by omega) (by omega), hS 36 (by omega) (by omega), hJ.1, hJ.2, h7, eR, eI 0 (by omega), eI 4 (by omega), eI 1 (by omega), eI 2 (by omega)]
  refine ⟨A.kd a1, a2, a3, a4, ⟨a5, A.kd a6, A.ln a6 a7, fun k hk => by rw [hm k hk]; exact a8 k hk⟩, a9, rt, g, b1, b2, b3, by omega, b5, b6, ⟨q, b7, ?_⟩, b9, ?_, ?_⟩
  · rw [hbg g b4]; exact WH.bx A _ q b8
  · rw [hbg g b4]; exact b10
  · rcases b11 with ⟨c1, c2, c3, c4, c5, pre, c6⟩ | c
    · obtain ⟨pre2, c7⟩ := hgl g b4
      exact Or.inl ⟨c1, c2, c3, c4, c5, pre2 ++ pre, by rw [c7, c6, List.append_assoc]⟩
    · exact Or.inr c
theorem R4.bx {h h2 : TH} {S S2 : MS} {s G G2 N : Nat} {nd : Nat → Nat} {gl gl2 nl : Nat → List BW} (A : Bx h h2) (H : R4 h S s G N nd gl nl) (hG : G ≤ G2) (hgl : ∀ g, g < G → ∃ pre, gl2 g = pre ++ gl g) (hbg : ∀ g, g < G → bg S2 g = bg S g)
    (hS : ∀ a, 28 ≤ a → a ≤ 36 → m_I S2 a = m_I S a) (hi : m_i S2 36 = m_i S 36) (hJ : m_J S2 34 = m_J S 34 ∧ m_J S2 35 = m_J S 35) (h2s : t_I h2 s 2 = t_I h s 2) (hrow : ∀ i, i < 60 → t_R h2 (s + 1) i = t_R h (s + 1) i) (h7 : ∀ a, t_kd h a = 6 → t_I h2 a 7 = t_I h a 7) (hm : ∀ i k, i < N → k < 4 → t_I h2 (nd i + 1) k = t_I h (nd i + 1) k) : R4 h2 S2 s G2 N nd gl2 nl := by
  obtain ⟨a1, a2, a3, a4, a5, a6, a7⟩ := H
  refine ⟨a1, by rw [h2s]; exact a2, by rw [hi]; exact a3, fun i hi => by rw [hrow i hi]; exact a4 i hi, a5, ?_, fun i hi2 => ?_⟩
  · rw [hS 28 (by omega) (by omega), hS 30 (by omega) (by omega)]; exact a6
  · exact (a7 i hi2).bx A hG hgl hbg hS hJ (h7 _ (a7 i hi2).1) (fun k hk => hm i k hi2 hk)
theorem R3.bx {h h2 : TH} {S : MS} {c n G : Nat} {gm : Nat → Nat} {ol : List Nat} {kp : Nat → Bool} (A : Bx h h2) (H : R3 h S c n G gm ol kp) (hk : ∀ i, i < G → t_kd h (gm i) = 3) (h5 : t_I h2 c 5 = t_I h c 5) (hr : ∀ j, t_R h2 (c + 3) j = t_R h (c + 3) j) : R3 h2 S c n G gm ol kp := by
  obtain ⟨a1, a2, a3, a4, a5, a6, a7, a8, a9, a10, a11⟩ := H
  refine ⟨a1, a2, a3, a4, a5, a6, by rw [h5]; exact a7, fun j g hj => by rw [hr]; exact a8 j g hj, a9, fun i hi => ?_, a11⟩
  obtain ⟨et, b1, b2, b3⟩ := a10 i hi
  exact ⟨et, b1, b2, by rw [((A.2 (gm i) (by have := hk i hi; omega)).2.2.2.2.1 (hk i hi)).1 3 (by omega)]; exact b3⟩
/-- every old object as it was: the relation stays -/
def Xt (h h2 : TH) : Prop := Bx h h2 ∧ ∀ a, t_kd h a ≠ 0 → t_I h2 a = t_I h a ∧ t_R h2 a = t_R h a
theorem Rel.xt {u mo : Nat} {h h2 : TH} {S : MS} {t c s n G N P : Nat} {gm nd : Nat → Nat} {gl nl : Nat → List BW} {ol : List Nat} {kp : Nat → Bool} (H : Rel u mo h S t c s n G N P gm nd gl nl ol kp) (A : Xt h h2) (hL : LDp mo h2) : Rel u mo h2 S t c s n G N P gm nd gl nl ol kp := by
  obtain ⟨h0, h1, h2', h3, h4, h5, h6⟩ := H
  have kc := h0.2.2.2.1
  have e : ∀ a k, t_kd h a = k → k ≠ 0 → t_I h2 a = t_I h a ∧ t_R h2 a = t_R h a := fun a k hk h0 => A.2 a (by omega)
  refine ⟨h0.bx A.1, h1.bx (by rw [(e c 2 kc.1 (by omega)).1]) (fun a _ => by rw [(e (c + 1) 9 kc.2.1.2.1 (by omega)).1]), ?_, ?_, ?_, h5, hL⟩
  · obtain ⟨a1, a2, a3, a4, a5, a6⟩ := h2'
    refine ⟨a1, by rw [(e c 2 kc.1 (by omega)).1]; exact a2, a3, fun i hi => by rw [(e (c + 2) 12 kc.2.2.1.2.1 (by omega)).2]; exact a4 i hi, a5, fun i hi => ?_⟩
    obtain ⟨b1, b2⟩ := a6 i hi
    have ep := e (gm i) 3 b1.2.1.1 (by omega)
    refine ⟨b1.bx A.1 (by rw [ep.1]) (by rw [ep.1]) (fun k j hk _ => ?_), b2.bx A.1 b1.2.1.1 (by rw [ep.2]) (fun k _ => ?_)⟩
    · rw [(e _ 1 (b1.2.2.2.2.2.2.2.2.2.2.2 k hk).1 (by omega)).1]
    · rw [(e _ 9 b2.2.2.2.2.2.2.2.1 (by omega)).1]
  · exact h3.bx A.1 (fun i hi => (h2'.2.2.2.2.2 i hi).1.2.1.1) (by rw [(e c 2 kc.1 (by omega)).1]) (fun j => by rw [(e (c + 3) 12 kc.2.2.2.2.1 (by omega)).2])
  · refine h4.bx A.1 (Nat.le_refl _) (fun g _ => ⟨[], rfl⟩) (fun _ _ => rfl) (fun _ _ _ => rfl) rfl ⟨rfl, rfl⟩ (by rw [(e s 5 h0.2.2.2.2.1 (by omega)).1]) (fun i _ => by rw [(e (s + 1) 13 h0.2.2.2.2.2.1.2.1 (by omega)).2]) (fun a ha => by rw [(e a 6 ha (by omega)).1]) (fun i k hi _ => ?_)
    rw [(e _ 9 (h4.2.2.2.2.2.2 i hi).2.2.2.2.1.2.1 (by omega)).1]
/-! PURE 10: chains and liberties of a board, as both tell them; the kept liberties. -/
theorem and_pt0 {w : Int64} {p : Nat} (hp : p < 64) : (w &&& pt p) = 0 ↔ bt w p = false := by
  constructor
  · intro h
    have := eq0_iff.mp h p
    rw [bt_and, bt_pt hp] at this
    simpa using this
  · intro h
    refine eq0_iff.mpr fun i => ?_
    rw [bt_and, bt_pt hp]
    by_cases q : i = p
    · subst q; rw [h]; rfl
    · simp [q]
theorem pt_nI {p : Nat} : x_shl (1 : Int64) (nI p) = pt p := rfl
theorem inA_stn {x : BW} (h : OKB x) (p : Nat) : inA (stn x p) := by unfold stn; split; exact h.1; exact h.2.1
def chn (x : BW) (p : Nat) : Int64 := fl (pt p) (stn x p)
theorem chainAt_X9 {x : BW} (h : OKB x) {p : Nat} (hp : p < 49) : fX9_chainAt x.1 x.2 (nI p) = some (chn x p) := by
  unfold fX9_chainAt fX9_chainAt_22 chn
  rw [bit_X9, Option.bind_some, Option.bind_some]
  by_cases hb : bt x.1 p = true
  · rw [if_neg (fun e => by rw [(and_pt0 (by omega)).mp e] at hb; cases hb), fl_X9 h.1]
    unfold stn; rw [if_pos hb]; rfl
  · rw [if_pos ((and_pt0 (by omega)).mpr (by simpa using hb)), fl_X9 h.2.1]
    unfold stn; rw [if_neg hb]; rfl
theorem libertiesAt_X9 {x : BW} (h : OKB x) {p : Nat} (hp : p < 49) : fX9_libertiesAt x.1 x.2 (nI p) = some (nI (lbc x p)) := by
  unfold fX9_libertiesAt
  rw [chainAt_X9 h hp, Option.bind_some, free_X9, Option.bind_some, bits_X9]; rfl
theorem chainAt_X4 {h : TH} {q : Nat} {x : BW} (hk : t_kd h q = 4) (hb : t_J h q 0 = x.1) (hw : t_J h q 1 = x.2) (ho : OKB x) {p : Nat} (hp : p < 49) : fX4_chainAt h q (nI p) = some (chn x p) := by
  unfold fX4_chainAt fX4_chainAt_27 chn
  rw [if_pos hk, hb, hw, pt_nI]
  by_cases hb : bt x.1 p = true
  · rw [if_neg (fun e => by rw [(and_pt0 (by omega)).mp e] at hb; cases hb), (fl_X0 ho.1).1]
    unfold stn; rw [if_pos hb]; rfl
  · rw [if_pos ((and_pt0 (by omega)).mpr (by simpa using hb)), (fl_X0 ho.2.1).1]
    unfold stn; rw [if_neg hb]; rfl
theorem stones_X4 {h : TH} {q : Nat} {x : BW} (hk : t_kd h q = 4) (hb : t_J h q 0 = x.1) (hw : t_J h q 1 = x.2) : fX4_stones h q = some (x.1 ||| x.2) := by
  unfold fX4_stones; rw [if_pos hk, hb, hw]
theorem countLiberties_X4 {h : TH} {q : Nat} {x : BW} (hk : t_kd h q = 4) (hb : t_J h q 0 = x.1) (hw : t_J h q 1 = x.2) (ho : OKB x) {p : Nat} (hp : p < 49) : fX4_countLiberties h q (nI p) = some (nI (lbc x p)) := by
  unfold fX4_countLiberties
  rw [if_pos hk, chainAt_X4 hk hb hw ho hp, Option.bind_some, stones_X4 hk hb hw, Option.bind_some, lib_X0, Option.bind_some, bitCount_J]; rfl
/-- an empty point has no chain -/
theorem fl_none {w : Int64} (hw : inA w) {p : Nat} (hp : p < 64) (h : bt w p = false) : fl (pt p) w = 0 := by
  refine eq0_iff.mpr fun i => ?_
  cases hi : bt (fl (pt p) w) i
  · rfl
  · exfalso
    refine fl_ind (s := pt p) hw (fun _ => False) (fun j h1 h2 => ?_) (fun _ _ q _ _ => q) i hi
    rw [bt_pt hp] at h1
    simp at h1
    subst h1; rw [h] at h2; cases h2
theorem ar_0 : ar 0 = 0 := by decide +kernel
theorem fr_0 (b w : Int64) : fr 0 b w = 0 := by
  refine eq0_iff.mpr fun i => ?_
  rw [bt_fr, ar_0, bt_0]; rfl
theorem lbc_none {x : BW} (h : OKB x) {p : Nat} (hp : p < 49) (hb : bt x.1 p = false) (hw : bt x.2 p = false) : lbc x p = 0 := by
  unfold lbc stn
  rw [if_neg (by rw [hb]; decide), fl_none h.2.1 (by omega) hw, fr_0, cnt_0]
/-- points that are as before, around a chain that touches no changed one -/
theorem chain_same {s0 s T : Int64} (h0 : inA s0) (h1 : inA s) {k : Nat} (hk : bt s k = true) (hs : ∀ i, bt T i = false → bt s0 i = bt s i)
    (hd : ∀ j, bt (fl (pt k) s) j = true → bt T j = false ∧ ∀ i, nb i j = true → bt T i = false) : fl (pt k) s0 = fl (pt k) s := by
  have hk9 := lt49 h1 hk
  have hkC := fl_in h1 hk
  refine (fl_Cl h0).uniq ?_
  refine ⟨fun i hi => ?_, fun i hi => ?_, fun i j hj hn hi => ?_, fun Tp t1 t2 i hi => ?_⟩
  · rw [bt_and, Bool.and_eq_true, bt_pt (by omega)] at hi
    simp at hi
    rw [hi.1]; exact hkC
  · rw [hs i (hd i hi).1]; exact fl_sb h1 i hi
  · refine fl_cl h1 hj hn ?_
    rw [← hs i ((hd j hj).2 i hn)]; exact hi
  · refine (fl_ind (s := pt k) h1 (fun i => bt (fl (pt k) s) i = true ∧ Tp i) (fun i a b => ?_) (fun i j a b c => ?_) i hi).2
    · rw [bt_pt (by omega)] at a
      simp at a
      subst a
      refine ⟨hkC, t1 i ?_⟩
      rw [bt_and, bt_pt (by omega), hs i (hd i hkC).1, hk]; simp
    · have ci := fl_cl h1 a.1 b c
      refine ⟨ci, t2 i j a.2 b ?_⟩
      rw [hs i (hd i ci).1]; exact c
theorem ar_of {w : Int64} (hw : inA w) {i j : Nat} (hi : i < 49) (hj : bt w j = true) (hn : nb i j = true) : bt (ar w) i = true := (bt_ar hw hi).mpr ⟨j, hj, hn⟩
theorem lbc_keep {x0 x : BW} (h0 : OKB x0) (h1 : OKB x) {T : Int64} (hT : inA T) (hb : ∀ i, bt T i = false → bt x0.1 i = bt x.1 i ∧ bt x0.2 i = bt x.2 i) {k : Nat} (hk9 : k < 49)
    (hd : ∀ j, bt (T ||| ar T) j = true → ¬ bt (chn x j) k = true) (hkT : bt T k = false) : lbc x0 k = lbc x k := by
  by_cases hk : bt (stn x k) k = true
  · have hst : inA (stn x k) := inA_stn h1 k
    have hst0 : inA (stn x0 k) := inA_stn h0 k
    have hs : ∀ i, bt T i = false → bt (stn x0 k) i = bt (stn x k) i := fun i hi => by
      unfold stn
      rw [(hb k hkT).1]
      split
      · exact (hb i hi).1
      · exact (hb i hi).2
    have hsame : ∀ j, bt (fl (pt k) (stn x k)) j = true → stn x j = stn x k := fun j hj => by
      have hjs := fl_sb hst j hj
      unfold stn at hjs ⊢
      by_cases q : bt x.1 k = true
      · rw [if_pos q] at hjs ⊢; rw [if_pos hjs]
      · rw [if_neg q] at hjs ⊢
        by_cases q2 : bt x.1 j = true
        · exact (h1.2.2 j q2 hjs).elim
        · rw [if_neg q2]
    have hnt : ∀ j, bt (fl (pt k) (stn x k)) j = true → bt (T ||| ar T) j = false := fun j hj => by
      cases q : bt (T ||| ar T) j
      · rfl
      · refine (hd j q ?_).elim
        unfold chn
        rw [hsame j hj, fl_same hst hk hj]
        exact fl_in hst hk
    have hd2 : ∀ j, bt (fl (pt k) (stn x k)) j = true → bt T j = false ∧ ∀ i, nb i j = true → bt T i = false := fun j hj => by
      have h2 := hnt j hj
      rw [bt_or, Bool.or_eq_false_iff] at h2
      refine ⟨h2.1, fun i hn => ?_⟩
      cases q : bt T i
      · rfl
      · have := ar_of hT (lt49 hst (fl_sb hst j hj)) q (by rw [nb_sym]; exact hn)
        rw [h2.2] at this; cases this
    have e := chain_same hst0 hst hk hs hd2
    unfold lbc
    rw [e]
    congr 1
    refine sb_eq (fun i hi => ?_) (fun i hi => ?_)
    · rw [bt_fr, Bool.and_eq_true] at hi ⊢
      have hi9 := lt49 (inA_ar _) hi.1
      obtain ⟨j, hj, hn⟩ := (bt_ar (inA_fl hst) hi9).mp hi.1
      have h3 := hb i ((hd2 j hj).2 i hn)
      rw [← h3.1, ← h3.2]; exact hi
    · rw [bt_fr, Bool.and_eq_true] at hi ⊢
      have hi9 := lt49 (inA_ar _) hi.1
      obtain ⟨j, hj, hn⟩ := (bt_ar (inA_fl hst) hi9).mp hi.1
      have h3 := hb i ((hd2 j hj).2 i hn)
      rw [h3.1, h3.2]; exact hi
  · have h3 := hb k hkT
    have q1 : bt x.1 k = false := by
      cases q : bt x.1 k
      · rfl
      · exact absurd (by unfold stn; rw [if_pos q]; exact q) hk
    have q2 : bt x.2 k = false := by
      cases q : bt x.2 k
      · rfl
      · exact absurd (by unfold stn; rw [if_neg (by rw [q1]; decide)]; exact q) hk
    rw [lbc_none h1 hk9 q1 q2, lbc_none h0 hk9 (by rw [h3.1]; exact q1) (by rw [h3.2]; exact q2)]
/-- a match's row of kept liberties, alone, changes -/
def KU (a : Nat) (h h2 : TH) : Prop := t_sz h2 = t_sz h ∧ t_kd h2 = t_kd h ∧ t_ln h2 = t_ln h ∧ t_J h2 = t_J h ∧ t_R h2 = t_R h ∧ (∀ b, b ≠ a → t_I h2 b = t_I h b) ∧ ∀ k, 49 ≤ k → t_I h2 a k = t_I h a k
theorem KU.rf {a : Nat} {h : TH} : KU a h h := ⟨rfl, rfl, rfl, rfl, rfl, fun _ _ => rfl, fun _ _ => rfl⟩
theorem KU.tr {a : Nat} {h h2 h3 : TH} (A : KU a h h2) (B : KU a h2 h3) : KU a h h3 := ⟨B.1.trans A.1, B.2.1.trans A.2.1, B.2.2.1.trans A.2.2.1, B.2.2.2.1.trans A.2.2.2.1, B.2.2.2.2.1.trans A.2.2.2.2.1, fun b hb => (B.2.2.2.2.2.1 b hb).trans (A.2.2.2.2.2.1 b hb), fun k hk => (B.2.2.2.2.2.2 k hk).trans (A.2.2.2.2.2.2 k hk)⟩
theorem KU.s {a k : Nat} {h : TH} {v : Int32} (hk : k < 49) : KU a h (s_I h a k v) := ⟨rfl, rfl, rfl, rfl, rfl, fun b hb => x_up2_ne hb, fun j hj => by rw [I_sI, if_neg (by omega)]⟩
theorem keepForAll_3 {p : Nat} {set : Int64} {v : Int32} : ∀ (d n : Nat) (h : TH) (i : Nat), i + d = 49 → d < n → t_kd h p = 3 → t_R h p 7 = some (p + 1) → t_kd h (p + 1) = 9 → t_ln h (p + 1) = 49 →
    ∃ h2, fX3_keepForAll_3 n h p set v (nI i) = some h2 ∧ KU (p + 1) h h2 ∧ ∀ k, k < 49 → t_I h2 (p + 1) k = if i ≤ k ∧ bt set k = true then v else t_I h (p + 1) k := by
  intro d
  induction d with
  | zero =>
    intro n h i hi hn h3 h7 h9 hl
    obtain ⟨n, rfl⟩ : ∃ k, n = k + 1 := ⟨n - 1, by omega⟩
    rw [fX3_keepForAll_3, if_pos h3, h7, Option.bind_some, if_pos h9, hl, if_pos (nI_le (by omega) (by omega))]
    exact ⟨h, rfl, KU.rf, fun k hk => by rw [if_neg (by omega)]⟩
  | succ d ih =>
    intro n h i hi hn h3 h7 h9 hl
    obtain ⟨n, rfl⟩ : ∃ k, n = k + 1 := ⟨n - 1, by omega⟩
    rw [fX3_keepForAll_3, if_pos h3, h7, Option.bind_some, if_pos h9, hl, if_neg (nI_ge (by omega) (by omega)), pt_nI]
    unfold fX3_keepForAll_32
    rw [nI_1]
    by_cases hb : bt set i = true
    · rw [if_neg (fun e => by rw [(and_pt0 (by omega)).mp e] at hb; cases hb), if_pos (xin_nI (by omega) (by omega)), clp (by omega)]
      obtain ⟨h2, k1, k2, k3⟩ := ih n (s_I h (p + 1) i v) (i + 1) (by omega) (by omega) h3 h7 h9 hl
      refine ⟨h2, k1, (KU.s (by omega)).tr k2, fun k hk => ?_⟩
      rw [k3 k hk, I_sI]
      by_cases q : k = i
      · subst q; rw [if_neg (by omega), if_pos ⟨rfl, rfl⟩, if_pos ⟨Nat.le_refl _, hb⟩]
      · by_cases q2 : i ≤ k ∧ bt set k = true
        · rw [if_pos ⟨by omega, q2.2⟩, if_pos q2]
        · rw [if_neg (fun z => q2 ⟨by omega, z.2⟩), if_neg (fun z => q z.2), if_neg q2]
    · rw [if_pos ((and_pt0 (by omega)).mpr (by simpa using hb))]
      obtain ⟨h2, k1, k2, k3⟩ := ih n h (i + 1) (by omega) (by omega) h3 h7 h9 hl
      refine ⟨h2, k1, k2, fun k hk => ?_⟩
      rw [k3 k hk]
      by_cases q : k = i
      · subst q; rw [if_neg (by omega), if_neg (fun z => hb z.2)]
      · by_cases q2 : i ≤ k ∧ bt set k = true
        · rw [if_pos ⟨by omega, q2.2⟩, if_pos q2]
        · rw [if_neg (fun z => q2 ⟨by omega, z.2⟩), if_neg q2]
theorem keepForAll_X3 {p : Nat} {set : Int64} {v : Int32} {h : TH} (h3 : t_kd h p = 3) (h7 : t_R h p 7 = some (p + 1)) (h9 : t_kd h (p + 1) = 9) (hl : t_ln h (p + 1) = 49) :
    ∃ h2, fX3_keepForAll h p set v = some h2 ∧ KU (p + 1) h h2 ∧ ∀ k, k < 49 → t_I h2 (p + 1) k = if bt set k = true then v else t_I h (p + 1) k := by
  obtain ⟨h2, k1, k2, k3⟩ := keepForAll_3 (p := p) (set := set) (v := v) 49 FU h 0 (by omega) (by unfold FU; omega) h3 h7 h9 hl
  refine ⟨h2, by unfold fX3_keepForAll; exact k1, k2, fun k hk => ?_⟩
  rw [k3 k hk]
  by_cases q : bt set k = true
  · rw [if_pos ⟨Nat.zero_le _, q⟩, if_pos q]
  · rw [if_neg (fun z => q z.2), if_neg q]
theorem lbc_chn {x : BW} (h : OKB x) {i k : Nat} (hi : i < 49) (hk : bt (chn x i) k = true) : lbc x k = lbc x i ∧ chn x k = chn x i := by
  have hst := inA_stn h i
  have hii : bt (stn x i) i = true := by
    cases q : bt (stn x i) i
    · unfold chn at hk
      rw [fl_none hst (by omega) q, bt_0] at hk; cases hk
    · rfl
  have hks := fl_sb hst k hk
  have e : stn x k = stn x i := by
    unfold stn at hks ⊢
    by_cases q : bt x.1 i = true
    · rw [if_pos q] at hks ⊢; rw [if_pos hks]
    · rw [if_neg q] at hks ⊢
      by_cases q2 : bt x.1 k = true
      · exact (h.2.2 k q2 hks).elim
      · rw [if_neg q2]
  unfold lbc chn
  rw [e, fl_same hst hii hk]
  exact ⟨rfl, rfl⟩
theorem keepLib_16 {p q : Nat} {x : BW} (ho : OKB x) : ∀ (d n : Nat) (h : TH) (T : Int64) (i : Nat), i + d = 49 → d < n → t_kd h p = 3 → t_R h p 7 = some (p + 1) → t_kd h (p + 1) = 9 → t_ln h (p + 1) = 49 → t_R h p 6 = some q → t_kd h q = 4 → t_J h q 0 = x.1 → t_J h q 1 = x.2 → inA T →
    (∀ k, k < 49 → t_I h (p + 1) k = nI (lbc x k) ∨ ∃ j, i ≤ j ∧ bt T j = true ∧ bt (chn x j) k = true) →
    ∃ h2, fX3_keepLiberties_16 n h p T (nI i) = some h2 ∧ KU (p + 1) h h2 ∧ ∀ k, k < 49 → t_I h2 (p + 1) k = nI (lbc x k) := by
  intro d
  have h49 : (49 : Int32) = nI 49 := by decide
  induction d with
  | zero =>
    intro n h T i hi hn h3 h7 h9 hl h6 hq hb hw hT hI
    obtain ⟨n, rfl⟩ : ∃ k, n = k + 1 := ⟨n - 1, by omega⟩
    rw [fX3_keepLiberties_16, h49, if_pos (nI_le (by omega) (by omega))]
    refine ⟨h, rfl, KU.rf, fun k hk => ?_⟩
    rcases hI k hk with e | ⟨j, a, b, c⟩
    · exact e
    · have := lt49 hT b; omega
  | succ d ih =>
    intro n h T i hi hn h3 h7 h9 hl h6 hq hb hw hT hI
    obtain ⟨n, rfl⟩ : ∃ k, n = k + 1 := ⟨n - 1, by omega⟩
    rw [fX3_keepLiberties_16, h49, if_neg (nI_ge (by omega) (by omega)), pt_nI]
    unfold fX3_keepLiberties_75
    rw [nI_1]
    by_cases hbi : bt T i = true
    · rw [if_neg (fun e => by rw [(and_pt0 (by omega)).mp e] at hbi; cases hbi), if_pos h3, h6, Option.bind_some, if_pos hq, chainAt_X4 hq hb hw ho (by omega), Option.bind_some, stones_X4 hq hb hw, Option.bind_some, lib_X0, Option.bind_some, bitCount_J, Option.bind_some]
      obtain ⟨h1, k1, k2, k3⟩ := keepForAll_X3 (set := chn x i) (v := nI (cnt (ar (chn x i) &&& ((x.1 ||| x.2) ^^^ (-1))))) h3 h7 h9 hl
      rw [k1, Option.bind_some]
      have hlb : ∀ k, bt (T &&& (chn x i ^^^ (-1))) k = true ↔ (bt T k = true ∧ ¬ bt (chn x i) k = true) := fun k => by
        rw [bt_and, bt_not]
        by_cases h64 : k < 64
        · simp [h64]
        · rw [bt_big (w := T) (by omega)]; simp
      obtain ⟨h2, m1, m2, m3⟩ := ih n h1 (T &&& (chn x i ^^^ (-1))) (i + 1) (by omega) (by omega) (by rw [k2.2.1]; exact h3) (by rw [k2.2.2.2.2.1]; exact h7) (by rw [k2.2.1]; exact h9) (by rw [k2.2.2.1]; exact hl) (by rw [k2.2.2.2.2.1]; exact h6) (by rw [k2.2.1]; exact hq) (by rw [k2.2.2.2.1]; exact hb) (by rw [k2.2.2.2.1]; exact hw) (inA_and_l hT) (fun k hk => by
        rw [k3 k hk]
        by_cases hc : bt (chn x i) k = true
        · left
          rw [if_pos hc, (lbc_chn ho (by omega) hc).1]; rfl
        · rw [if_neg hc]
          rcases hI k hk with e | ⟨j, a, b, c⟩
          · exact Or.inl e
          · right
            have hj49 := lt49 hT b
            refine ⟨j, ?_, (hlb j).mpr ⟨b, fun z => hc ?_⟩, c⟩
            · rcases Nat.eq_or_lt_of_le a with e | e
              · subst e; exact absurd c hc
              · omega
            · rw [← (lbc_chn ho (by omega) z).2]; exact c)
      exact ⟨h2, m1, k2.tr m2, m3⟩
    · rw [if_pos ((and_pt0 (by omega)).mpr (by simpa using hbi))]
      exact ih n h T (i + 1) (by omega) (by omega) h3 h7 h9 hl h6 hq hb hw hT (fun k hk => by
        rcases hI k hk with e | ⟨j, a, b, c⟩
        · exact Or.inl e
        · right
          refine ⟨j, ?_, b, c⟩
          rcases Nat.eq_or_lt_of_le a with e | e
          · subst e; exact absurd b hbi
          · omega)
/-- behind a change T of the board the kept liberties are right again -/
theorem keepLib_X3 {p q : Nat} {x0 x : BW} {T : Int64} {h : TH} (h0 : OKB x0) (ho : OKB x) (hT : inA T) (hs : ∀ i, bt T i = false → bt x0.1 i = bt x.1 i ∧ bt x0.2 i = bt x.2 i) (h3 : t_kd h p = 3) (h7 : t_R h p 7 = some (p + 1)) (h9 : t_kd h (p + 1) = 9) (hl : t_ln h (p + 1) = 49) (h6 : t_R h p 6 = some q) (hq : t_kd h q = 4) (hb : t_J h q 0 = x.1) (hw : t_J h q 1 = x.2)
    (hk0 : ∀ k, k < 49 → t_I h (p + 1) k = nI (lbc x0 k)) :
    ∃ h2, fX3_keepLiberties h p T = some h2 ∧ KU (p + 1) h h2 ∧ ∀ k, k < 49 → t_I h2 (p + 1) k = nI (lbc x k) := by
  obtain ⟨h1, k1, k2, k3⟩ := keepForAll_X3 (set := T) (v := 0) h3 h7 h9 hl
  unfold fX3_keepLiberties
  rw [if_pos h3, k1, Option.bind_some, ar_X0, Option.bind_some]
  obtain ⟨h2, m1, m2, m3⟩ := keepLib_16 ho 49 FU h1 (T ||| ar T) 0 (by omega) (by unfold FU; omega) (by rw [k2.2.1]; exact h3) (by rw [k2.2.2.2.2.1]; exact h7) (by rw [k2.2.1]; exact h9) (by rw [k2.2.2.1]; exact hl) (by rw [k2.2.2.2.2.1]; exact h6) (by rw [k2.2.1]; exact hq) (by rw [k2.2.2.2.1]; exact hb) (by rw [k2.2.2.2.1]; exact hw) (inA_or hT (inA_ar T)) (fun k hk => by
    by_cases hd : ∃ j, bt (T ||| ar T) j = true ∧ bt (chn x j) k = true
    · obtain ⟨j, a, b⟩ := hd
      exact Or.inr ⟨j, Nat.zero_le _, a, b⟩
    · left
      have hd' : ∀ j, bt (T ||| ar T) j = true → ¬ bt (chn x j) k = true := fun j a b => hd ⟨j, a, b⟩
      rw [k3 k hk]
      by_cases hkT : bt T k = true
      · rw [if_pos hkT]
        have hnk : ¬ bt (chn x k) k = true := hd' k (by rw [bt_or, hkT]; rfl)
        have hst : ¬ bt (stn x k) k = true := fun z => hnk (fl_in (inA_stn ho k) z)
        have q1 : bt x.1 k = false := by
          cases q : bt x.1 k
          · rfl
          · exact absurd (by unfold stn; rw [if_pos q]; exact q) hst
        have q2 : bt x.2 k = false := by
          cases q : bt x.2 k
          · rfl
          · exact absurd (by unfold stn; rw [if_neg (by rw [q1]; decide)]; exact q) hst
        rw [lbc_none ho hk q1 q2]; rfl
      · rw [if_neg hkT, hk0 k hk, lbc_keep h0 ho hT hs hk hd' (by simpa using hkT)])
  refine ⟨h2, ?_, k2.tr m2, m3⟩
  rw [show (0 : Int32) = nI 0 by decide]; exact m1
/-! PURE 11: the score. -/
theorem zi (n : Nat) : nI n = Int32.ofInt (n : Int) := Int32.ofInt_eq_ofNat.symm
theorem zadd (a b : Int) : Int32.ofInt a + Int32.ofInt b = Int32.ofInt (a + b) := (Int32.ofInt_add a b).symm
theorem zneg (a : Int) : -Int32.ofInt a = Int32.ofInt (-a) := (Int32.ofInt_neg a).symm
theorem zsub (a b : Int) : Int32.ofInt a - Int32.ofInt b = Int32.ofInt (a - b) := by rw [Int32.sub_eq_add_neg, zneg, zadd, Int.sub_eq_add_neg]
theorem cntP_split (p q : Nat → Bool) : ∀ l : List Nat, l.countP p = l.countP (fun i => p i && q i) + l.countP (fun i => p i && !q i) := by
  intro l
  induction l with
  | nil => rfl
  | cons x t ih =>
    rw [List.countP_cons, List.countP_cons, List.countP_cons, ih]
    cases p x <;> cases q x <;> simp <;> omega
theorem cnt_congr {x : Int64} {f : Nat → Bool} (h : ∀ i, i < 64 → bt x i = f i) : cnt x = (List.range 64).countP f := by
  unfold cnt
  apply List.countP_congr
  intro i hi
  rw [h i (List.mem_range.mp hi)]
theorem cnt_split (x y : Int64) : cnt x = cnt (x &&& y) + cnt (x &&& (y ^^^ (-1))) := by
  rw [cnt_congr (x := x &&& y) (f := fun i => bt x i && bt y i) (fun i _ => bt_and x y i), cnt_congr (x := x &&& (y ^^^ (-1))) (f := fun i => bt x i && !bt y i) (fun i hi => by rw [bt_and, bt_not]; simp [hi])]
  exact cntP_split _ _ _
theorem cnt_disj {x y : Int64} (h : ∀ i, bt x i = true → bt y i = true → False) : cnt (x ||| y) = cnt x + cnt y := by
  rw [cnt_split (x ||| y) x]
  congr 1
  · congr 1
    refine bt_ext fun i _ => ?_
    rw [bt_and, bt_or]
    cases bt x i <;> cases bt y i <;> rfl
  · congr 1
    refine bt_ext fun i hi => ?_
    rw [bt_and, bt_or, bt_not]
    cases hx : bt x i <;> cases hy : bt y i <;> simp [hi]
    exact h i hx hy
def near (b E : Int64) : Int64 := fl (ar b) E
theorem near_same {s E : Int64} (hE : inA E) {i q : Nat} (h1 : bt (fl s E) i = true) (h2 : bt (fl (pt i) E) q = true) : bt (fl s E) q = true := by
  have hi := fl_sb hE i h1
  have hi9 := lt49 hE hi
  refine fl_ind (s := pt i) hE (fun q => bt (fl s E) q = true) (fun j a _ => ?_) (fun a b c d e => fl_cl hE c d e) q h2
  rw [bt_pt (by omega)] at a
  simp at a
  subst a; exact h1
theorem near_iff {b E : Int64} (hb : inA b) (hE : inA E) {m : Nat} (hm : bt E m = true) : bt (near b E) m = true ↔ ¬ (ar (fl (pt m) E) &&& b) = 0 := by
  have hR : inA (fl (pt m) E) := inA_fl hE
  rw [ne0_iff]
  unfold near
  rw [fl_un hE]
  constructor
  · rintro ⟨p, h1, h2, h3⟩
    have hp := fl_back hE h2 h3
    obtain ⟨i, hi, hn⟩ := (bt_ar hb (lt49 hE h2)).mp h1
    refine ⟨i, ?_⟩
    rw [bt_and, hi, ar_of hR (lt49 hb hi) hp (by rw [nb_sym]; exact hn)]; rfl
  · rintro ⟨i, hi⟩
    rw [bt_and, Bool.and_eq_true] at hi
    have hi9 := lt49 hb hi.2
    obtain ⟨j, hj, hn⟩ := (bt_ar hR hi9).mp hi.1
    have hjE := fl_sb hE j hj
    exact ⟨j, ar_of hb (lt49 hE hjE) hi.2 (by rw [nb_sym]; exact hn), hjE, fl_back hE hm hj⟩
theorem near_all {b E : Int64} (hE : inA E) {m i : Nat} (hm : bt E m = true) (hi : bt (fl (pt m) E) i = true) : bt (near b E) i = bt (near b E) m := by
  unfold near
  cases h1 : bt (fl (ar b) E) m
  · cases h2 : bt (fl (ar b) E) i
    · rfl
    · rw [near_same hE h2 (fl_back hE hm hi)] at h1; cases h1
  · exact near_same hE h1 hi
/-- points of one side alone -/
def terr (b w E : Int64) : Int64 := near b E &&& (near w E ^^^ (-1))
theorem bt_terr {b w E : Int64} {i : Nat} (hi : i < 64) : bt (terr b w E) i = (bt (near b E) i && !bt (near w E) i) := by
  unfold terr; rw [bt_and, bt_not]; simp [hi]
theorem terr_cnt {b w E left : Int64} (hE : inA E) {m : Nat} (hm : bt E m = true) (hl : sb (fl (pt m) E) left) :
    cnt (terr b w E &&& left) = (if bt (near b E) m = true ∧ ¬ bt (near w E) m = true then cnt (fl (pt m) E) else 0) + cnt (terr b w E &&& (left &&& (fl (pt m) E ^^^ (-1)))) := by
  rw [cnt_split (terr b w E &&& left) (fl (pt m) E)]
  congr 1
  · by_cases h : bt (near b E) m = true ∧ ¬ bt (near w E) m = true
    · rw [if_pos h]
      congr 1
      refine bt_ext fun i hi => ?_
      rw [bt_and, bt_and, bt_terr hi]
      cases hr : bt (fl (pt m) E) i
      · simp
      · rw [near_all hE hm hr, near_all hE hm hr, h.1, hl i hr]; simp [h.2]
    · rw [if_neg h]
      have e : (terr b w E &&& left) &&& fl (pt m) E = 0 := by
        refine eq0_iff.mpr fun i => ?_
        by_cases hi : i < 64
        · rw [bt_and, bt_and, bt_terr hi]
          cases hr : bt (fl (pt m) E) i
          · simp
          · rw [near_all hE hm hr, near_all hE hm hr]
            cases h1 : bt (near b E) m
            · simp
            · cases h2 : bt (near w E) m
              · exact absurd ⟨h1, by rw [h2]; decide⟩ h
              · simp
        · exact bt_big (by omega)
      rw [e, cnt_0]
  · congr 1
    refine bt_ext fun i hi => ?_
    simp only [bt_and, Bool.and_assoc]
theorem score_71 {S : MS} {b w E : Int64} (hb : inA b) (hw : inA w) (hE : inA E) : ∀ (n : Nat) (z : Int) (left : Int64), sb left E → (∀ p, bt left p = true → sb (fl (pt p) E) left) → cnt left < n →
    fX9_scoreOf_71 n S b w E (Int32.ofInt z) left = some (Int32.ofInt (z + cnt (terr b w E &&& left) - cnt (terr w b E &&& left))) := by
  intro n
  induction n with
  | zero => intro z left _ _ h; omega
  | succ n ih =>
    intro z left hs hc hn
    rw [fX9_scoreOf_71]
    by_cases h0 : left = 0
    · subst h0
      rw [if_pos rfl]
      have e : ∀ y : Int64, y &&& 0 = 0 := fun y => eq0_iff.mpr fun i => by rw [bt_and, bt_0]; simp
      rw [e, e, cnt_0]
      congr 2
      omega
    · rw [if_neg h0]
      obtain ⟨m, hm, h1, h2, h3⟩ := low_ex h0
      have hmE := hs m h1
      rw [low_1 hm h1 h2 h3, fl_X9 hE, Option.bind_some, ar_X9, Option.bind_some]
      have hmC : bt (fl (pt m) E) m = true := fl_in hE hmE
      have hlb : ∀ i, bt (left &&& (fl (pt m) E ^^^ (-1))) i = true ↔ (bt left i = true ∧ ¬ bt (fl (pt m) E) i = true) := fun i => by
        rw [bt_and, bt_not]
        by_cases hi : i < 64
        · simp [hi]
        · rw [bt_big (w := left) (by omega)]; simp
      have hs' : sb (left &&& (fl (pt m) E ^^^ (-1))) E := sb_tr (and_sb_l _ _) hs
      have hc' : ∀ p, bt (left &&& (fl (pt m) E ^^^ (-1))) p = true → sb (fl (pt p) E) (left &&& (fl (pt m) E ^^^ (-1))) := fun p hp i hi => by
        rw [hlb] at hp ⊢
        refine ⟨hc p hp.1 i hi, fun hz => hp.2 ?_⟩
        have e1 := fl_same hE (hs p hp.1) hi
        have e2 := fl_same hE hmE hz
        rw [← e2, e1]
        exact fl_in hE (hs p hp.1)
      have hcn : cnt (left &&& (fl (pt m) E ^^^ (-1))) < cnt left := cnt_lt (and_sb_l _ _) (fun e => by
        have h9 : bt (left &&& (fl (pt m) E ^^^ (-1))) m = true := by rw [e]; exact h1
        exact ((hlb m).mp h9).2 hmC)
      have hA := terr_cnt (b := b) (w := w) hE hmE (hc m h1)
      have hB := terr_cnt (b := w) (w := b) hE hmE (hc m h1)
      have go : ∀ z2 : Int, z2 = z + ((if bt (near b E) m = true ∧ ¬ bt (near w E) m = true then cnt (fl (pt m) E) else 0 : Nat) : Int) - ((if bt (near w E) m = true ∧ ¬ bt (near b E) m = true then cnt (fl (pt m) E) else 0 : Nat) : Int) →
          fX9_scoreOf_71 n S b w E (Int32.ofInt z2) (left &&& (fl (pt m) E ^^^ (-1))) = some (Int32.ofInt (z + cnt (terr b w E &&& left) - cnt (terr w b E &&& left))) := by
        intro z2 hz2
        rw [ih z2 _ hs' hc' (by omega), hA, hB, hz2]
        congr 2
        omega
      have nb1 := near_iff hb hE hmE
      have nw1 := near_iff hw hE hmE
      have z0 : (0 : Int32) = Int32.ofInt 0 := rfl
      by_cases qb : (ar (fl (pt m) E) &&& b) = 0
      · have nb2 : ¬ bt (near b E) m = true := fun z => nb1.mp z qb
        rw [if_pos qb]
        unfold fX9_scoreOf_119
        rw [ar_X9, Option.bind_some]
        by_cases qw : (ar (fl (pt m) E) &&& w) = 0
        · have nw2 : ¬ bt (near w E) m = true := fun z => nw1.mp z qw
          rw [if_pos qw]
          unfold fX9_scoreOf_139 fX9_scoreOf_161 fX9_scoreOf_181
          rw [if_pos rfl, if_pos rfl, z0, zadd]
          exact go _ (by rw [if_neg (fun z => nb2 z.1), if_neg (fun z => nw2 z.1)]; simp)
        · have nw2 : bt (near w E) m = true := nw1.mpr qw
          rw [if_neg qw]
          unfold fX9_scoreOf_139 fX9_scoreOf_161 fX9_scoreOf_181
          rw [if_pos rfl, if_neg (by decide), if_pos rfl, bits_X9, Option.bind_some, zi, zneg, zadd]
          exact go _ (by rw [if_neg (fun z => nb2 z.1), if_pos ⟨nw2, nb2⟩]; simp; omega)
      · have nb2 : bt (near b E) m = true := nb1.mpr qb
        rw [if_neg qb]
        unfold fX9_scoreOf_119
        rw [ar_X9, Option.bind_some]
        by_cases qw : (ar (fl (pt m) E) &&& w) = 0
        · have nw2 : ¬ bt (near w E) m = true := fun z => nw1.mp z qw
          rw [if_pos qw]
          unfold fX9_scoreOf_139 fX9_scoreOf_181
          rw [if_neg (by decide), if_pos rfl, bits_X9, Option.bind_some, zi, zadd]
          exact go _ (by rw [if_pos ⟨nb2, nw2⟩, if_neg (fun z => nw2 z.1)]; simp)
        · have nw2 : bt (near w E) m = true := nw1.mpr qw
          rw [if_neg qw]
          unfold fX9_scoreOf_139 fX9_scoreOf_161 fX9_scoreOf_181
          rw [if_neg (by decide), if_neg (by decide), if_neg (by decide), if_neg (by decide), z0, zadd]
          exact go _ (by rw [if_neg (fun z => z.2 nw2), if_neg (fun z => z.2 nb2)]; simp)
def emp (x : BW) : Int64 := (562949953421311 : Int64) &&& ((x.1 ||| x.2) ^^^ (-1))
/-- black's points less white's on the board -/
def sco (x : BW) : Int := cnt x.1 - cnt x.2 + cnt (terr x.1 x.2 (emp x)) - cnt (terr x.2 x.1 (emp x))
theorem terr_emp {b w E : Int64} (hE : inA E) : terr b w E &&& E = terr b w E := by
  refine bt_ext fun i hi => ?_
  rw [bt_and, bt_terr hi]
  cases h : bt (near b E) i
  · rfl
  · have := fl_sb hE i h
    rw [this]; simp
theorem lead_X0 {x : BW} (h : OKB x) : fX0_lead x.1 x.2 = some (Int32.ofInt (sco x)) := by
  have hE : inA (emp x) := inA_emp _ _
  unfold fX0_lead
  have e3 : (562949953421311 : Int64) &&& ((x.1 ||| x.2) ^^^ (-1 : Int64)) = emp x := rfl
  rw [e3, ar_X0, Option.bind_some, (fl_X0 hE).1, Option.bind_some, ar_X0, Option.bind_some, (fl_X0 hE).1, Option.bind_some, bitCount_J, Option.bind_some, bitCount_J, Option.bind_some]
  have d1 : ∀ i, bt x.1 i = true → bt (terr x.1 x.2 (emp x)) i = true → False := fun i h1 h2 => by
    have hi := lt49 h.1 h1
    rw [bt_terr (by omega), Bool.and_eq_true] at h2
    have := (bt_emp x.1 x.2 i).mp (fl_sb hE i h2.1)
    exact this.2.1 h1
  have d2 : ∀ i, bt x.2 i = true → bt (terr x.2 x.1 (emp x)) i = true → False := fun i h1 h2 => by
    have hi := lt49 h.2.1 h1
    rw [bt_terr (by omega), Bool.and_eq_true] at h2
    have := (bt_emp x.1 x.2 i).mp (fl_sb hE i h2.1)
    exact this.2.2 h1
  have e1 : cnt (x.1 ||| (fl (ar x.1) (emp x) &&& (fl (ar x.2) (emp x) ^^^ (-1)))) = cnt x.1 + cnt (terr x.1 x.2 (emp x)) := cnt_disj d1
  have e2 : cnt (x.2 ||| (fl (ar x.2) (emp x) &&& (fl (ar x.1) (emp x) ^^^ (-1)))) = cnt x.2 + cnt (terr x.2 x.1 (emp x)) := cnt_disj d2
  rw [e1, e2, zi, zi, zsub]
  unfold sco
  congr 2
  omega
theorem scoreOf_X9 {S : MS} {g L : Nat} {x : BW} (hg : g < 16) (h11 : m_I S 11 g = nI L) (hL : L < 4096) (hb : m_J S 18 L = x.1) (hw : m_J S 19 L = x.2) (h : OKB x) :
    fX9_scoreOf S (nI g) = some (Int32.ofInt (sco x - if m_I S 7 g = 0 then 6 else 0)) := by
  have hE : inA (emp x) := inA_emp _ _
  have e3 : (562949953421311 : Int64) &&& ((x.1 ||| x.2) ^^^ (-1 : Int64)) = emp x := rfl
  unfold fX9_scoreOf
  rw [if_pos (xin_nI hg (by omega)), clp (by omega), h11, if_pos (xin_nI hL (by omega)), clp (by omega), hb, hw, bits_X9, Option.bind_some, bits_X9, Option.bind_some, e3, zi, zi, zsub]
  unfold fX9_scoreOf_64
  have go : ∀ z : Int, fX9_scoreOf_71 FU S x.1 x.2 (emp x) (Int32.ofInt z) (emp x) = some (Int32.ofInt (z + cnt (terr x.1 x.2 (emp x)) - cnt (terr x.2 x.1 (emp x)))) := by
    intro z
    rw [score_71 h.1 h.2.1 hE FU z (emp x) (sb_rf _) (fun p _ => fl_sb hE) (by have := cnt_64 (emp x); unfold FU; omega), terr_emp hE, terr_emp hE]
  have z6 : (6 : Int32) = Int32.ofInt 6 := rfl
  have z0 : (0 : Int32) = Int32.ofInt 0 := rfl
  unfold sco
  by_cases h7 : m_I S 7 g = 0
  · rw [if_pos h7, if_pos h7, z6, zsub, go]
    congr 2
    omega
  · rw [if_neg h7, if_neg h7]
    rw [show (Int32.ofInt ((cnt x.1 : Int) - (cnt x.2 : Int)) - 0) = Int32.ofInt (((cnt x.1 : Int) - (cnt x.2 : Int)) - 0) from zsub _ 0, go]
    congr 2
    omega
/-! PURE 12: positions, and stones that are allowed. -/
theorem nI_nm1 {k : Nat} (h : k < 2 ^ 31) : ¬ nI k = -1 := fun e => by
  have := nI_pos' h
  rw [e] at this
  exact absurd this (by decide)
/-! every old object as it was -/
theorem Xt.rf {h : TH} : Xt h h := ⟨Bx.rf, fun _ _ => ⟨rfl, rfl⟩⟩
theorem Xt.tr {h h2 h3 : TH} (A : Xt h h2) (B : Xt h2 h3) : Xt h h3 := ⟨A.1.tr B.1, fun a ha => by
  have hb : t_kd h2 a ≠ 0 := by rw [(A.1.2 a ha).1]; exact ha
  exact ⟨(B.2 a hb).1.trans (A.2 a ha).1, (B.2 a hb).2.trans (A.2 a ha).2⟩⟩
theorem Xt.N {h h2 : TH} {kd n : Nat} (A : Xt h h2) (hf : t_kd h (t_sz h2) = 0) : Xt h (s_N h2 kd n) := ⟨A.1.N hf, fun a ha => by
  have hne : a ≠ t_sz h2 := fun e => ha (by rw [e]; exact hf)
  have eI : t_I (s_N h2 kd n) a = t_I h2 a := funext fun j => by rw [I_sN, if_neg hne]
  have eR : t_R (s_N h2 kd n) a = t_R h2 a := funext fun j => by rw [R_sN, if_neg hne]
  rw [eI, eR]; exact A.2 a ha⟩
theorem Xt.I {h h2 : TH} {a k : Nat} {v : Int32} (A : Xt h h2) (hk : t_kd h a = 0) : Xt h (s_I h2 a k v) := ⟨A.1.I (Or.inl hk), fun b hb => by
  have e : b ≠ a := fun e => hb (by rw [e]; exact hk)
  have eI : t_I (s_I h2 a k v) b = t_I h2 b := x_up2_ne e
  rw [eI]; exact A.2 b hb⟩
theorem Xt.J {h h2 : TH} {a k : Nat} {v : Int64} (A : Xt h h2) (hk : t_kd h a = 0) : Xt h (s_J h2 a k v) := ⟨A.1.J hk, fun b hb => A.2 b hb⟩
theorem Xt.R {h h2 : TH} {a k : Nat} {v : Option Nat} (A : Xt h h2) (hk : t_kd h a = 0) : Xt h (s_R h2 a k v) := ⟨A.1.R (Or.inl hk), fun b hb => by
  have e : b ≠ a := fun e => hb (by rw [e]; exact hk)
  have eR : t_R (s_R h2 a k v) b = t_R h2 b := x_up2_ne e
  rw [eR]; exact A.2 b hb⟩
theorem LDp.N {mo kd n : Nat} {h : TH} (H : LDp mo h) : LDp mo (s_N h kd n) := by
  obtain ⟨h1, h2, h3⟩ := H
  refine ⟨by rw [sz_sN]; omega, fun a ha => ?_, fun a ha => ?_⟩
  · rw [kd_sN, if_neg (by omega)]; exact h2 a ha
  · rw [sz_sN] at ha; rw [kd_sN, if_neg (by omega)]; exact h3 a (by omega)
theorem LDp.I {mo a k : Nat} {h : TH} {v : Int32} (H : LDp mo h) : LDp mo (s_I h a k v) := H
theorem LDp.J {mo a k : Nat} {h : TH} {v : Int64} (H : LDp mo h) : LDp mo (s_J h a k v) := H
theorem LDp.R {mo a k : Nat} {h : TH} {v : Option Nat} (H : LDp mo h) : LDp mo (s_R h a k v) := H
theorem LDp.z {mo : Nat} {h : TH} (H : LDp mo h) : t_kd h (t_sz h) = 0 := H.2.2 _ (Nat.le_refl _)
/-- a new position behind q -/
def nP (h : TH) (q : Nat) (x : BW) (c ps : Int32) : TH :=
  s_R (s_I (s_I (s_I (s_J (s_J (s_N h 4 0) (t_sz h) 0 x.1) (t_sz h) 1 x.2) (t_sz h) 2 c) (t_sz h) 3 (t_I h q 3 + 1)) (t_sz h) 4 ps) (t_sz h) 5 (some q)
theorem nP_xt {h : TH} {q : Nat} {x : BW} {c ps : Int32} (hf : t_kd h (t_sz h) = 0) : Xt h (nP h q x c ps) := ((((((Xt.rf.N hf).J hf).J hf).I hf).I hf).I hf).R hf
theorem nP_ld {mo : Nat} {h : TH} {q : Nat} {x : BW} {c ps : Int32} (H : LDp mo h) : LDp mo (nP h q x c ps) := (LDp.N (kd := 4) (n := 0) H : LDp mo (s_N h 4 0))
theorem nP_sz {h : TH} {q : Nat} {x : BW} {c ps : Int32} : t_sz (nP h q x c ps) = t_sz h + 1 := rfl
theorem nP_init {h : TH} {q : Nat} {x : BW} {c ps : Int32} (hq : t_kd h q = 4) (hf : t_kd h (t_sz h) = 0) : fX4_init (s_N h 4 0) (t_sz h) x.1 x.2 c ps (some q) = some (nP h q x c ps) := by
  have hne : q ≠ t_sz h := fun e => by rw [e, hf] at hq; cases hq
  unfold fX4_init fX4_init_37
  simp only [kd_sN, kd_sJ, kd_sI, if_true, reduceCtorEq, if_false, Option.bind_some, if_neg hne, hq, I_sI, I_sJ, I_sN, false_and, Nat.reduceEqDiff, and_false]
  rfl
theorem nP_WH {h : TH} {q g : Nat} {x : BW} {c ps : Int32} {l : List BW} (H : WH h g q l) (hf : t_kd h (t_sz h) = 0) (hc : c = nI ((g + l.length) % 2)) : WH (nP h q x c ps) g (t_sz h) (x :: l) := by
  have h3 : t_I h q 3 + 1 = nI l.length := by
    cases l with
    | nil => exact H.elim
    | cons y t => rw [H.2.2.2.2.1, nI_1]; rfl
  have hl : l ≠ [] := fun e => by subst e; exact H.elim
  refine ⟨?_, ?_, ?_, ?_, ?_, fun e => absurd e hl, fun _ => ⟨q, ?_, WH.bx (nP_xt hf).1 l q H⟩⟩
  · simp [nP, kd_sN, kd_sI, kd_sJ, kd_sR]
  · simp [nP, J_sI, J_sJ, J_sR]
  · simp [nP, J_sI, J_sJ, J_sR]
  · rw [← hc]; simp [nP, I_sI, I_sJ, I_sR]
  · rw [← h3]; simp [nP, I_sI, I_sJ, I_sR]
  · simp [nP, R_sI, R_sJ, R_sR]
theorem nP_4 {h : TH} {q : Nat} {x : BW} {c ps : Int32} : t_I (nP h q x c ps) (t_sz h) 4 = ps := by simp [nP, I_sI, I_sR]
/-- a stone on an empty point that is no suicide and makes no position that was there -/
def okM (x : BW) (c : Int32) (p : Nat) (l : List BW) : Prop := bt x.1 p = false ∧ bt x.2 p = false ∧ sui (putO x.1 x.2 c p) (othOf x.1 x.2 c) p = false ∧ ¬ mvB x c (nI p) ∈ l
theorem mvB_p {x : BW} {c : Int32} {p : Nat} (hp : p < 49) : mvB x c (nI p) = if c = 0 then (putO x.1 x.2 c p, putA x.1 x.2 c p) else (putA x.1 x.2 c p, putO x.1 x.2 c p) := by
  unfold mvB
  rw [if_neg (nI_nm1 (by omega)), clp (by omega)]
theorem own_oth {x : BW} {c : Int32} : ownOf x.1 x.2 c ||| othOf x.1 x.2 c = x.1 ||| x.2 := by
  unfold ownOf othOf
  split
  · rfl
  · refine bt_ext fun i _ => ?_
    rw [bt_or, bt_or, Bool.or_comm]
theorem or_pt0 {x : BW} {p : Nat} (hp : p < 64) : ((x.1 ||| x.2) &&& pt p) = 0 ↔ (bt x.1 p = false ∧ bt x.2 p = false) := by
  rw [and_pt0 hp, bt_or, Bool.or_eq_false_iff]
theorem sb_alv {own oth : Int64} (h : inA oth) : sb (alv own oth) oth := fun i hi => ((bt_alv h i).mp hi).1
theorem inA_n1 {a : Int64} (h : inA a) : ¬ a = -1 := fun e => by
  have := h 63 (by omega)
  rw [e, bt_m1 63 (by omega)] at this; cases this
theorem OKB.mv {x : BW} {c : Int32} {p : Nat} (h : OKB x) (hp : p < 49) (h1 : bt x.1 p = false) (h2 : bt x.2 p = false) : OKB (mvB x c (nI p)) := by
  have ho : inA (othOf x.1 x.2 c) := inA_oth h.1 h.2.1
  have key : ∀ i, bt (putO x.1 x.2 c p) i = true → bt (putA x.1 x.2 c p) i = true → False := fun i a b => by
    have b2 := sb_alv ho i b
    unfold putO at a
    rw [bt_or, Bool.or_eq_true, bt_pt (by omega)] at a
    unfold ownOf at a
    unfold othOf at b2
    rcases a with a | a
    · by_cases hc : c = 0
      · rw [if_pos hc] at a b2; exact h.2.2 i a b2
      · rw [if_neg hc] at a b2; exact h.2.2 i b2 a
    · simp at a
      subst a
      by_cases hc : c = 0
      · rw [if_pos hc, h2] at b2; cases b2
      · rw [if_neg hc, h1] at b2; cases b2
  rw [mvB_p hp]
  by_cases hc : c = 0
  · rw [if_pos hc]
    exact ⟨inA_putO h.1 h.2.1 hp, inA_putA h.1 h.2.1, key⟩
  · rw [if_neg hc]
    exact ⟨inA_putA h.1 h.2.1, inA_putO h.1 h.2.1 hp, fun i a b => key i b a⟩
theorem wasThere_X4 {h : TH} {t g : Nat} {b w : Int64} : ∀ (l : List BW) (n q : Nat), WH h g q l → l.length < n → fX4_wasThere_3 n h t b w (some q) = some (decide ((b, w) ∈ l)) := by
  intro l
  induction l with
  | nil => intro n q H; exact H.elim
  | cons x l ih =>
    intro n q H hn
    obtain ⟨n, rfl⟩ : ∃ k, n = k + 1 := ⟨n - 1, by simp at hn; omega⟩
    simp only [List.length_cons] at hn
    obtain ⟨h1, h2, h3, -, -, h6, h7⟩ := H
    rw [fX4_wasThere_3, if_neg (by simp), Option.bind_some, if_pos h1, h2, h3]
    have rest : ¬ (b, w) = x → fX4_wasThere_30 (fX4_wasThere_3 n) h t b w (some q) = some (decide ((b, w) ∈ x :: l)) := by
      intro hne
      unfold fX4_wasThere_30
      rw [Option.bind_some, if_pos h1]
      by_cases hl : l = []
      · rw [h6 hl]
        obtain ⟨n, rfl⟩ : ∃ k, n = k + 1 := ⟨n - 1, by omega⟩
        rw [fX4_wasThere_3, if_pos rfl, hl]
        simp [hne]
      · obtain ⟨q', a, c⟩ := h7 hl
        rw [a, ih n q' c (by omega)]
        congr 1
        simp [hne]
    by_cases e1 : x.1 = b
    · rw [if_pos e1]
      by_cases e2 : x.2 = w
      · rw [if_pos e2]
        congr 1
        subst e1; subst e2
        simp
      · rw [if_neg e2]; exact rest (fun e => e2 (by rw [← e]))
    · rw [if_neg e1]; exact rest (fun e => e1 (by rw [← e]))
theorem wasThere_X9 {S : MS} {P : Nat} {b w : Int64} (hP : P ≤ 4096) : ∀ (l : List BW) (n L : Nat) (a : Bool), WM S P L l → l.length < n → fX9_wasThere_6 n S b w (bi a) (nI L) = some (a || decide ((b, w) ∈ l)) := by
  intro l
  induction l with
  | nil => intro n L a H; exact H.elim
  | cons x l ih =>
    intro n L a H hn
    obtain ⟨n, rfl⟩ : ∃ k, n = k + 1 := ⟨n - 1, by simp at hn; omega⟩
    simp only [List.length_cons] at hn
    obtain ⟨h1, h2, h3, h6, h7⟩ := H
    have hx := xin_nI (k := L) (n := 4096) (by omega) (by omega)
    have hc := clp (k := L) (by omega)
    rw [fX9_wasThere_6, if_neg (nI_nm1 (by omega)), hx, hc, h2, h3]
    have rest : ∀ a2 : Bool, (a || decide ((b, w) ∈ x :: l)) = (a2 || decide ((b, w) ∈ l)) → fX9_wasThere_47 (fX9_wasThere_6 n) S b w (nI L) (bi a2) = some (a || decide ((b, w) ∈ x :: l)) := by
      intro a2 hne
      unfold fX9_wasThere_47
      rw [if_pos hx, hc]
      by_cases hl : l = []
      · rw [h6 hl]
        obtain ⟨n, rfl⟩ : ∃ k, n = k + 1 := ⟨n - 1, by omega⟩
        rw [fX9_wasThere_6, if_pos rfl, xbool_bi, hne, hl]
        simp
      · obtain ⟨q', c1, c2⟩ := h7 hl
        rw [c1, ih n q' a2 c2 (by omega), hne]
    have m : decide ((b, w) ∈ x :: l) = (decide ((b, w) = x) || decide ((b, w) ∈ l)) := by
      rw [← Bool.decide_or]; congr 1; exact propext List.mem_cons
    cases a with
    | true =>
      rw [if_neg (by decide)]
      exact rest true (by simp)
    | false =>
      rw [if_pos bi0, if_pos rfl]
      by_cases e1 : x.1 = b
      · rw [if_pos e1]
        by_cases e2 : x.2 = w
        · rw [if_pos e2]
          refine rest true ?_
          rw [m, decide_eq_true (by rw [← e1, ← e2])]; rfl
        · rw [if_neg e2]
          refine rest false ?_
          rw [m, decide_eq_false (fun e => e2 (by rw [← e]))]; rfl
      · rw [if_neg e1]
        refine rest false ?_
        rw [m, decide_eq_false (fun e => e1 (by rw [← e]))]; rfl
theorem wasThere_X9' {S : MS} {P L : Nat} {b w : Int64} {l : List BW} (hP : P ≤ 4096) (H : WM S P L l) (hl : l.length ≤ 5000) : fX9_wasThere S (nI L) b w = some (decide ((b, w) ∈ l)) := by
  unfold fX9_wasThere
  rw [show (0 : Int32) = bi false from rfl, wasThere_X9 hP l FU L false H (by unfold FU; omega)]
  rfl
theorem WM.len {S : MS} {P : Nat} : ∀ (l : List BW) (L : Nat), WM S P L l → l ≠ [] := fun l L H e => by subst e; exact H
theorem WH.len {h : TH} {g : Nat} : ∀ (l : List BW) (q : Nat), WH h g q l → l ≠ [] := fun l q H e => by subst e; exact H
theorem col2 (k : Nat) : nI (k % 2) = 0 ∨ nI (k % 2) = 1 := by
  have : k % 2 = 0 ∨ k % 2 = 1 := by omega
  rcases this with e | e <;> rw [e]
  · exact Or.inl rfl
  · exact Or.inr rfl
theorem col_flip (k : Nat) : 1 - nI (k % 2) = nI ((k + 1) % 2) := by
  have : k % 2 = 0 ∨ k % 2 = 1 := by omega
  rcases this with e | e
  · rw [e, show (k + 1) % 2 = 1 by omega]; rfl
  · rw [e, show (k + 1) % 2 = 0 by omega]; rfl
theorem stonesOf_X4 {h : TH} {q : Nat} {x : BW} (hk : t_kd h q = 4) (hb : t_J h q 0 = x.1) (hw : t_J h q 1 = x.2) (c : Int32) : fX4_stonesOf h q c = some (ownOf x.1 x.2 c) := by
  unfold fX4_stonesOf ownOf
  by_cases hc : c = 0
  · rw [if_pos hc, if_pos hc, if_pos hk, hb]
  · rw [if_neg hc, if_neg hc, if_pos hk, hw]
theorem own_flip {x : BW} {c : Int32} (h : c = 0 ∨ c = 1) : ownOf x.1 x.2 (1 - c) = othOf x.1 x.2 c := by
  rcases h with rfl | rfl <;> rfl
theorem withStone_X4 {h : TH} {q g p : Nat} {x : BW} {l : List BW} (H : WH h g q (x :: l)) (hx : OKB x) (hp : p < 49) (hf : t_kd h (t_sz h) = 0) (hl : l.length ≤ 5000) :
    (okM x (nI ((g + l.length) % 2)) p (x :: l) → fX4_withStone h q (nI p) = some (some (t_sz h), nP h q (mvB x (nI ((g + l.length) % 2)) (nI p)) (nI ((g + (l.length + 1)) % 2)) 0)) ∧
    (¬ okM x (nI ((g + l.length) % 2)) p (x :: l) → fX4_withStone h q (nI p) = some (none, h)) := by
  have hk := H.1
  have hb := H.2.1
  have hw := H.2.2.1
  have hcl := H.2.2.2.1
  have hne : q ≠ t_sz h := fun e => by rw [e, hf] at hk; cases hk
  generalize hc : nI ((g + l.length) % 2) = c at hcl ⊢
  have hc2 : c = 0 ∨ c = 1 := by rw [← hc]; exact col2 _
  have hcf : nI ((g + (l.length + 1)) % 2) = 1 - c := by rw [← hc, col_flip]; rfl
  have e0 : fX4_withStone h q (nI p) = (if ((x.1 ||| x.2) &&& pt p) = 0 then (if sui (putO x.1 x.2 c p) (othOf x.1 x.2 c) p = true then some (none, h) else (if mvB x c (nI p) ∈ x :: l then some (none, h) else some (some (t_sz h), nP h q (mvB x c (nI p)) (1 - c) 0))) else some (none, h)) := by
    unfold fX4_withStone
    rw [if_pos hk, hcl, stonesOf_X4 hk hb hw, Option.bind_some, stonesOf_X4 hk hb hw, Option.bind_some, own_flip hc2, pt_nI, left_X0 hp (inA_own hx.1 hx.2.1) (inA_oth hx.1 hx.2.1), Option.bind_some, own_oth]
    by_cases he : ((x.1 ||| x.2) &&& pt p) = 0
    · rw [if_pos he, if_pos he]
      change (if (if sui (putO x.1 x.2 c p) (othOf x.1 x.2 c) p = true then (-1 : Int64) else putA x.1 x.2 c p) = -1 then some (none, h) else (if c = 0 then fX4_withStone_63 h q (if sui (putO x.1 x.2 c p) (othOf x.1 x.2 c) p = true then (-1 : Int64) else putA x.1 x.2 c p) (putO x.1 x.2 c p) (putO x.1 x.2 c p) else fX4_withStone_63 h q (if sui (putO x.1 x.2 c p) (othOf x.1 x.2 c) p = true then (-1 : Int64) else putA x.1 x.2 c p) (putO x.1 x.2 c p) (if sui (putO x.1 x.2 c p) (othOf x.1 x.2 c) p = true then (-1 : Int64) else putA x.1 x.2 c p))) = _
      by_cases hs : sui (putO x.1 x.2 c p) (othOf x.1 x.2 c) p = true
      · rw [if_pos hs, if_pos hs, if_pos rfl]
      · rw [if_neg hs, if_neg hs, if_neg (inA_n1 (inA_putA hx.1 hx.2.1))]
        have h79 : ∀ y : BW, fX4_withStone_79 h q y.1 y.2 = (if y ∈ x :: l then some (none, h) else some (some (t_sz h), nP h q y (1 - c) 0)) := by
          intro y
          unfold fX4_withStone_79 fX4_wasThere
          rw [if_pos hk, wasThere_X4 (x :: l) FU q H (by simp only [List.length_cons]; unfold FU; omega), Option.bind_some]
          by_cases hm : y ∈ x :: l
          · rw [decide_eq_true hm, if_neg (by decide), if_pos hm]
          · rw [decide_eq_false hm, if_pos rfl, if_neg hm, kd_sN, if_neg hne, if_pos hk, I_sN, if_neg hne, hcl, nP_init hk hf]; rfl
        rw [mvB_p hp]
        unfold fX4_withStone_63
        rw [if_pos hk, if_pos hk, hcl]
        by_cases h0 : c = 0
        · rw [if_pos h0, if_pos h0, if_pos h0]; exact h79 (putO x.1 x.2 c p, putA x.1 x.2 c p)
        · rw [if_neg h0, if_neg h0, if_neg h0]; exact h79 (putA x.1 x.2 c p, putO x.1 x.2 c p)
    · rw [if_neg he, if_neg he, if_pos rfl]
  rw [e0, hcf]
  constructor
  · rintro ⟨a1, a2, a3, a4⟩
    rw [if_pos ((or_pt0 (by omega)).mpr ⟨a1, a2⟩), if_neg (by rw [a3]; decide), if_neg a4]
  · intro hn
    by_cases he : ((x.1 ||| x.2) &&& pt p) = 0
    · rw [if_pos he]
      by_cases hs : sui (putO x.1 x.2 c p) (othOf x.1 x.2 c) p = true
      · rw [if_pos hs]
      · rw [if_neg hs, if_pos]
        refine Classical.byContradiction fun hm => hn ?_
        have := (or_pt0 (by omega)).mp he
        exact ⟨this.1, this.2, by simpa using hs, hm⟩
    · rw [if_neg he]
theorem withPassing_X4 {h : TH} {q g : Nat} {x : BW} {l : List BW} (H : WH h g q (x :: l)) (hf : t_kd h (t_sz h) = 0) : fX4_withPassing h q = some (some (t_sz h), nP h q x (nI ((g + (l.length + 1)) % 2)) (t_I h q 4 + 1)) := by
  have hk := H.1
  have hne : q ≠ t_sz h := fun e => by rw [e, hf] at hk; cases hk
  unfold fX4_withPassing
  rw [kd_sN, if_neg hne, if_pos hk, J_sN, if_neg hne, J_sN, if_neg hne, I_sN, if_neg hne, I_sN, if_neg hne, H.2.1, H.2.2.1, H.2.2.2.1, col_flip, nP_init hk hf]
  rfl
theorem sideOf_X9 {S : MS} {g m : Nat} (hg : g < 16) (hm : m < 5000) : fX9_sideOf S (nI g) (nI m) = some (nI ((bg S g + m) % 2)) := by
  have i2 : (2 : Int32) = nI 2 := by decide
  have i0 : (0 : Int32) = nI 0 := by decide
  have i1 : (1 : Int32) = nI 1 := by decide
  unfold fX9_sideOf fX9_sideOf_15 bg
  rw [if_pos (xin_nI hg (by omega)), clp (by omega)]
  by_cases h : m_I S 7 g ≤ 1
  · rw [if_pos h, if_pos h, i0, nI_add, i2, pk_rem (by omega) (by omega) (by omega)]
  · rw [if_neg h, if_neg h, i1, nI_add, i2, pk_rem (by omega) (by omega) (by omega)]
theorem isEmpty_X9 {x : BW} {p : Nat} (hp : p < 64) : fX9_isEmpty x.1 x.2 (nI p) = some (decide (bt x.1 p = false ∧ bt x.2 p = false)) := by
  unfold fX9_isEmpty
  rw [bit_X9, Option.bind_some]
  by_cases h : ((x.1 ||| x.2) &&& pt p) = 0
  · rw [if_pos h, decide_eq_true ((or_pt0 hp).mp h)]
  · rw [if_neg h, decide_eq_false (fun z => h ((or_pt0 hp).mpr z))]
theorem putS_new {S : MS} {x : BW} {c : Int32} {p : Nat} (hp : p < 49) : (m_j (putS S x.1 x.2 c p) 25, m_j (putS S x.1 x.2 c p) 26) = mvB x c (nI p) ∧ m_i (putS S x.1 x.2 c p) 28 = bi (sui (putO x.1 x.2 c p) (othOf x.1 x.2 c) p) ∧ m_i (putS S x.1 x.2 c p) 27 = nI (cnt (dd (othOf x.1 x.2 c) (putO x.1 x.2 c p) (othOf x.1 x.2 c))) := by
  rw [mvB_p hp]
  refine ⟨?_, ?_, ?_⟩
  · unfold putS
    by_cases h0 : c = 0
    · simp only [if_pos h0, mj_j, if_true, Nat.reduceEqDiff, if_false]
    · simp only [if_neg h0, mj_j, if_true, Nat.reduceEqDiff, if_false]
  · simp [putS, mi_j, mi_i]
  · simp [putS, mi_j, mi_i]
theorem canPlay_X9 {S : MS} {g P L p : Nat} {x : BW} {l : List BW} (hg : g < 16) (hP : P ≤ 4096) (h11 : m_I S 11 g = nI L) (H : WM S P L (x :: l)) (h12 : m_I S 12 g = nI l.length) (hx : OKB x) (hp : p < 49) (hl : l.length ≤ 4000) (hs : m_I S 8 g = 0) :
    (okM x (nI ((bg S g + l.length) % 2)) p (x :: l) → fX9_canPlay S (nI g) (nI p) = some (true, putS S x.1 x.2 (nI ((bg S g + l.length) % 2)) p)) ∧
    (¬ okM x (nI ((bg S g + l.length) % 2)) p (x :: l) → ∃ S2, fX9_canPlay S (nI g) (nI p) = some (false, S2) ∧ ∀ n, Sq n S S2) := by
  have hL := H.1
  have hb := H.2.1
  have hw := H.2.2.1
  generalize hc : nI ((bg S g + l.length) % 2) = c
  have hput := putS_new (S := S) (x := x) (c := c) hp
  have e0 : fX9_canPlay S (nI g) (nI p) = (if decide (bt x.1 p = false ∧ bt x.2 p = false) = false then some (false, S) else (if m_i (putS S x.1 x.2 c p) 28 = 0 then (if decide (mvB x c (nI p) ∈ x :: l) = false then some (true, putS S x.1 x.2 c p) else some (false, putS S x.1 x.2 c p)) else some (false, putS S x.1 x.2 c p))) := by
    unfold fX9_canPlay
    rw [if_pos (xin_nI hg (by omega)), clp (k := g) (by omega), h11, if_pos (xin_nI (k := L) (by omega) (by omega)), clp (k := L) (by omega), if_pos hs, hb, hw, isEmpty_X9 (by omega), Option.bind_some, h12, sideOf_X9 hg (by omega), Option.bind_some, hc, puts_X9 S c hx.1 hx.2.1 hp, Option.bind_some]
    have e11 : m_I (putS S x.1 x.2 c p) 11 g = nI L := by rw [Sq.put.I' (n := 0) 11 (by omega)]; exact h11
    rw [e11, wasThere_X9' hP (WM.sq (Sq.put (n := 0)) _ _ H) (by simp only [List.length_cons]; omega), Option.bind_some, hput.1]
  rw [e0, hput.2.1]
  constructor
  · rintro ⟨a1, a2, a3, a4⟩
    rw [decide_eq_true ⟨a1, a2⟩, if_neg (by decide), a3, if_pos bi0, decide_eq_false a4, if_pos rfl]
  · intro hn
    by_cases he : bt x.1 p = false ∧ bt x.2 p = false
    · rw [decide_eq_true he, if_neg (by decide)]
      cases hs : sui (putO x.1 x.2 c p) (othOf x.1 x.2 c) p
      · rw [if_pos bi0]
        have hm : mvB x c (nI p) ∈ x :: l := Classical.byContradiction fun hm => hn ⟨he.1, he.2, hs, hm⟩
        rw [decide_eq_true hm, if_neg (by decide)]
        exact ⟨_, rfl, fun n => Sq.put⟩
      · rw [if_neg bi1]
        exact ⟨_, rfl, fun n => Sq.put⟩
    · rw [decide_eq_false he, if_pos rfl]
      exact ⟨_, rfl, fun n => Sq.rf⟩
