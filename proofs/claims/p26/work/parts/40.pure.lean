/-! PURE 1: sets of points as the bits of a long number; neighbours; flooding. -/
theorem FU_s : ∃ n, FU = n + 1 := ⟨999999999999999999999999999999999999999999999999999999999999, rfl⟩
def bt (w : Int64) (i : Nat) : Bool := w.toBitVec.getLsbD i
theorem bt_big {w : Int64} {i : Nat} (h : 64 ≤ i) : bt w i = false := BitVec.getLsbD_of_ge _ _ h
theorem bt_and (a b : Int64) (i : Nat) : bt (a &&& b) i = (bt a i && bt b i) := by simp [bt, Int64.toBitVec_and]
theorem bt_or (a b : Int64) (i : Nat) : bt (a ||| b) i = (bt a i || bt b i) := by simp [bt, Int64.toBitVec_or]
theorem bt_xor (a b : Int64) (i : Nat) : bt (a ^^^ b) i = (bt a i ^^ bt b i) := by simp [bt, Int64.toBitVec_xor]
theorem bt_m1 : ∀ i, i < 64 → bt (-1) i = true := by decide +kernel
theorem bt_0 (i : Nat) : bt 0 i = false := by simp [bt]
theorem bt_not (a : Int64) (i : Nat) : bt (a ^^^ (-1)) i = (decide (i < 64) && !bt a i) := by
  rw [bt_xor]
  by_cases h : i < 64
  · rw [bt_m1 i h]; simp [h]
  · rw [bt_big (w := a) (by omega), bt_big (w := -1) (by omega)]; simp [h]
theorem bt_ext {a b : Int64} (h : ∀ i, i < 64 → bt a i = bt b i) : a = b := by
  apply Int64.toBitVec_inj.mp
  apply BitVec.eq_of_getLsbD_eq
  intro i hi
  exact h i hi
theorem x_shN : ∀ n, n < 64 → ((nI n).toInt64 &&& 63).toBitVec.smod 64 = BitVec.ofNat 64 n := by decide +kernel
theorem x_usN : ∀ n, n < 64 → ((nI n).toInt64.toUInt64 &&& Int64.toUInt64 63).toBitVec % 64 = BitVec.ofNat 64 n := by decide +kernel
theorem bt_shl (a : Int64) {n : Nat} (hn : n < 64) (i : Nat) : bt (x_shl a (nI n)) i = (decide (i < 64) && (decide (n ≤ i) && bt a (i - n))) := by
  unfold x_shl bt
  rw [Int64.toBitVec_shiftLeft, x_shN n hn, BitVec.shiftLeft_eq', BitVec.toNat_ofNat, Nat.mod_eq_of_lt (show n < 2 ^ 64 by omega), BitVec.getLsbD_shiftLeft]
  by_cases h : i < 64
  · by_cases h2 : i < n
    · simp [h, h2]; intro h3; omega
    · simp [h, h2]; omega
  · simp [h]
theorem bt_ushr (a : Int64) {n : Nat} (hn : n < 64) (i : Nat) : bt (x_ushr a (nI n)) i = bt a (n + i) := by
  unfold x_ushr bt
  have h1 : ((a.toUInt64 >>> ((nI n).toInt64.toUInt64 &&& Int64.toUInt64 63)).toInt64).toBitVec = a.toBitVec >>> n := by
    show (a.toUInt64 >>> ((nI n).toInt64.toUInt64 &&& Int64.toUInt64 63)).toBitVec = _
    rw [UInt64.toBitVec_shiftRight, x_usN n hn, BitVec.ushiftRight_eq', BitVec.toNat_ofNat, Nat.mod_eq_of_lt (show n < 2 ^ 64 by omega)]
    rfl
  rw [h1, BitVec.getLsbD_ushiftRight]
/-- a set of points: nothing beyond the board -/
def inA (w : Int64) : Prop := ∀ i, 49 ≤ i → bt w i = false
def sb (a b : Int64) : Prop := ∀ i, bt a i = true → bt b i = true
theorem sb_rf (a : Int64) : sb a a := fun _ h => h
theorem sb_tr {a b c : Int64} (h1 : sb a b) (h2 : sb b c) : sb a c := fun i h => h2 i (h1 i h)
theorem sb_eq {a b : Int64} (h1 : sb a b) (h2 : sb b a) : a = b := bt_ext fun i _ => by
  cases ha : bt a i <;> cases hb : bt b i <;> first | rfl | (rw [h1 i ha] at hb; cases hb) | (rw [h2 i hb] at ha; cases ha)
theorem inA_sb {a b : Int64} (h : inA b) (h1 : sb a b) : inA a := fun i hi => by
  cases ha : bt a i
  · rfl
  · have h2 := h1 i ha
    rw [h i hi] at h2; cases h2
theorem eq0_iff {a : Int64} : a = 0 ↔ ∀ i, bt a i = false := by
  constructor
  · rintro rfl i; exact bt_0 i
  · intro h; exact bt_ext fun i _ => by rw [h i, bt_0]
theorem ne0_iff {a : Int64} : ¬ a = 0 ↔ ∃ i, bt a i = true := by
  rw [eq0_iff]
  constructor
  · intro h
    exact Classical.byContradiction fun hc => h fun i => by
      cases hb : bt a i
      · rfl
      · exact absurd ⟨i, hb⟩ hc
  · rintro ⟨i, hi⟩ h; rw [h i] at hi; cases hi
theorem inA_and_l {a b : Int64} (h : inA a) : inA (a &&& b) := fun i hi => by rw [bt_and, h i hi]; rfl
theorem inA_and_r {a b : Int64} (h : inA b) : inA (a &&& b) := fun i hi => by rw [bt_and, h i hi]; simp
theorem inA_or {a b : Int64} (ha : inA a) (hb : inA b) : inA (a ||| b) := fun i hi => by rw [bt_or, ha i hi, hb i hi]; rfl
theorem inA_0 : inA 0 := fun i _ => bt_0 i
theorem bt_ALL : ∀ i, i < 64 → bt 562949953421311 i = decide (i < 49) := by decide +kernel
theorem inA_ALL : inA 562949953421311 := fun i hi => by
  by_cases h : i < 64
  · rw [bt_ALL i h]; simp; omega
  · exact bt_big (by omega)
theorem bt_ALL' {i : Nat} (h : i < 49) : bt 562949953421311 i = true := by rw [bt_ALL i (by omega)]; simp [h]
/-- neighbours -/
def nb (i j : Nat) : Bool := decide (i = j + 7) || decide (j = i + 7) || (decide (i = j + 1) && decide (j % 7 ≠ 6)) || (decide (j = i + 1) && decide (i % 7 ≠ 6))
theorem nb_sym (i j : Nat) : nb i j = nb j i := by
  unfold nb
  cases decide (i = j + 7) <;> cases decide (j = i + 7) <;> simp [Bool.or_comm, Bool.and_comm]
def ar (w : Int64) : Int64 := ((((x_shl w (7 : Int32)) ||| (x_ushr w (7 : Int32))) ||| ((x_shl (w &&& (-283691315109953 : Int64)) (1 : Int32)) ||| (x_ushr (w &&& (-4432676798594 : Int64)) (1 : Int32)))) &&& (562949953421311 : Int64))
theorem ar_X0 (w : Int64) : fX0_around w = some (ar w) := rfl
theorem ar_X9 (w : Int64) : fX9_around w = some (ar w) := by
  unfold fX9_around ar
  congr 2
  refine bt_ext fun i _ => ?_
  simp only [bt_or]
  cases bt (x_shl w 7) i <;> cases bt (x_ushr w 7) i <;> simp
theorem bt_nR : ∀ j, j < 49 → bt (-283691315109953) j = decide (j % 7 ≠ 6) := by decide +kernel
theorem bt_nL : ∀ j, j < 49 → bt (-4432676798594) j = decide (j % 7 ≠ 0) := by decide +kernel
theorem inA_ar (w : Int64) : inA (ar w) := inA_and_r inA_ALL
theorem bt_ar {w : Int64} (hw : inA w) {i : Nat} (hi : i < 49) : bt (ar w) i = true ↔ ∃ j, bt w j = true ∧ nb i j = true := by
  have h7 : (7 : Int32) = nI 7 := by decide
  have h1 : (1 : Int32) = nI 1 := by decide
  have hlt : ∀ j, bt w j = true → j < 49 := fun j hj => by
    rcases Nat.lt_or_ge j 49 with h | h
    · exact h
    · rw [hw j h] at hj; cases hj
  unfold ar
  rw [bt_and, bt_ALL' hi, Bool.and_true, h7, h1, bt_or, bt_or, bt_or, bt_shl w (by omega), bt_ushr w (by omega), bt_shl _ (by omega), bt_ushr _ (by omega), bt_and, bt_and]
  simp only [Bool.or_eq_true, Bool.and_eq_true, decide_eq_true_eq]
  constructor
  · rintro ((⟨-, h2, h3⟩ | h3) | ⟨-, h2, h3, h4⟩ | ⟨h3, h4⟩)
    · exact ⟨_, h3, by simp [nb]; omega⟩
    · exact ⟨_, h3, by simp [nb]; omega⟩
    · refine ⟨_, h3, ?_⟩
      rw [bt_nR _ (hlt _ h3)] at h4
      simp at h4
      simp [nb, h4]; omega
    · refine ⟨_, h3, ?_⟩
      rw [bt_nL _ (hlt _ h3)] at h4
      simp at h4
      simp [nb]; omega
  · rintro ⟨j, hj, hn⟩
    have hj9 := hlt j hj
    simp only [nb, Bool.or_eq_true, Bool.and_eq_true, decide_eq_true_eq] at hn
    rcases hn with ((hn | hn) | ⟨hn, h6⟩) | ⟨hn, h6⟩
    · exact Or.inl (Or.inl ⟨by omega, by omega, by rw [show i - 7 = j by omega]; exact hj⟩)
    · exact Or.inl (Or.inr (by rw [show 7 + i = j by omega]; exact hj))
    · refine Or.inr (Or.inl ⟨by omega, by omega, ?_, ?_⟩)
      · rw [show i - 1 = j by omega]; exact hj
      · rw [show i - 1 = j by omega, bt_nR j hj9]; simp [h6]
    · refine Or.inr (Or.inr ⟨?_, ?_⟩)
      · rw [show 1 + i = j by omega]; exact hj
      · rw [show 1 + i = j by omega, bt_nL j hj9]; simp; omega
/-- how many points -/
def cnt (w : Int64) : Nat := (List.range 64).countP (bt w)
theorem countP_lt {l : List Nat} {p q : Nat → Bool} (h : ∀ x, p x = true → q x = true) {x : Nat} (hx : x ∈ l) (hq : q x = true) (hp : p x = false) : l.countP p < l.countP q := by
  induction l with
  | nil => cases hx
  | cons a t ih =>
    have hle : ∀ t : List Nat, t.countP p ≤ t.countP q := fun t => List.countP_mono_left fun x _ => h x
    rw [List.countP_cons, List.countP_cons]
    rcases List.mem_cons.mp hx with rfl | hx
    · have := hle t
      simp only [hq, hp]; simp; omega
    · have h1 := ih hx
      by_cases ha : p a = true
      · simp only [ha, h a ha]; simp; omega
      · simp only [ha]; simp; split <;> omega
theorem cnt_lt {a b : Int64} (h : sb a b) (hn : a ≠ b) : cnt a < cnt b := by
  have : ∃ i, i < 64 ∧ bt b i = true ∧ bt a i = false := Classical.byContradiction fun hc => hn (sb_eq h fun i hi => by
    cases ha : bt a i
    · refine absurd ⟨i, ?_, hi, ha⟩ hc
      rcases Nat.lt_or_ge i 64 with q | q
      · exact q
      · rw [bt_big q] at hi; cases hi
    · rfl)
  obtain ⟨i, hi, h1, h2⟩ := this
  exact countP_lt h (List.mem_range.mpr hi) h1 h2
theorem cnt_le {a b : Int64} (h : sb a b) : cnt a ≤ cnt b := List.countP_mono_left fun x _ => h x
theorem cnt_49 {w : Int64} (h : inA w) : cnt w ≤ 49 := by
  have h1 : cnt 562949953421311 = 49 := by decide +kernel
  rw [← h1]
  refine cnt_le fun i hi => ?_
  rcases Nat.lt_or_ge i 49 with q | q
  · exact bt_ALL' q
  · rw [h i q] at hi; cases hi
theorem cnt_pos {w : Int64} (h : ¬ w = 0) : 0 < cnt w := by
  have h1 := cnt_lt (a := 0) (b := w) (fun i hi => by rw [bt_0] at hi; cases hi) (fun e => h e.symm)
  omega
theorem cnt_0 : cnt 0 = 0 := by decide +kernel
/-- F is what hangs together with s within w -/
def Cl (s w F : Int64) : Prop := sb s F ∧ sb F w ∧ (∀ i j, bt F j = true → nb i j = true → bt w i = true → bt F i = true) ∧ ∀ T : Nat → Prop, (∀ i, bt s i = true → T i) → (∀ i j, T j → nb i j = true → bt w i = true → T i) → ∀ i, bt F i = true → T i
theorem Cl.uniq {s w F G : Int64} (h1 : Cl s w F) (h2 : Cl s w G) : F = G :=
  sb_eq (fun i => h1.2.2.2 (fun i => bt G i = true) h2.1 (fun i j a b c => h2.2.2.1 i j a b c) i) (fun i => h2.2.2.2 (fun i => bt F i = true) h1.1 (fun i j a b c => h1.2.2.1 i j a b c) i)
def stp (w x : Int64) : Int64 := x ||| (ar x &&& w)
theorem bt_stp {w x : Int64} (hw : inA w) (hx : sb x w) (i : Nat) : bt (stp w x) i = true ↔ bt x i = true ∨ (bt w i = true ∧ ∃ j, bt x j = true ∧ nb i j = true) := by
  have hxA := inA_sb hw hx
  unfold stp
  rw [bt_or, bt_and, Bool.or_eq_true, Bool.and_eq_true]
  constructor
  · rintro (h | ⟨h1, h2⟩)
    · exact Or.inl h
    · have hi : i < 49 := by
        rcases Nat.lt_or_ge i 49 with q | q
        · exact q
        · rw [hw i q] at h2; cases h2
      exact Or.inr ⟨h2, (bt_ar hxA hi).mp h1⟩
  · rintro (h | ⟨h2, h1⟩)
    · exact Or.inl h
    · have hi : i < 49 := by
        rcases Nat.lt_or_ge i 49 with q | q
        · exact q
        · rw [hw i q] at h2; cases h2
      exact Or.inr ⟨(bt_ar hxA hi).mpr h1, h2⟩
theorem stp_sb {w x : Int64} (hw : inA w) (hx : sb x w) : sb (stp w x) w := fun i h => by
  rcases (bt_stp hw hx i).mp h with q | q
  · exact hx i q
  · exact q.1
theorem stp_up {w x : Int64} : sb x (stp w x) := fun i h => by unfold stp; rw [bt_or, h]; rfl
theorem Cl.step {w x F : Int64} (hw : inA w) (hx : sb x w) (h : Cl (stp w x) w F) : Cl x w F :=
  ⟨sb_tr stp_up h.1, h.2.1, h.2.2.1, fun T h1 h2 => h.2.2.2 T (fun i hi => by
    rcases (bt_stp hw hx i).mp hi with q | ⟨q1, j, q2, q3⟩
    · exact h1 i q
    · exact h2 i j (h1 j q2) q3 q1) h2⟩
theorem Cl.fix {w x : Int64} (hw : inA w) (hx : sb x w) (h : stp w x = x) : Cl x w x :=
  ⟨sb_rf x, hx, fun i j h1 h2 h3 => by rw [← h]; exact (bt_stp hw hx i).mpr (Or.inr ⟨h3, j, h1, h2⟩), fun T h1 _ => h1⟩
theorem flood_X0 {w : Int64} (hw : inA w) : ∀ (n : Nat) (x : Int64) (k : Nat), sb x w → k ≤ 49 → 49 - k < n → (x = 0 ∨ k + 1 ≤ cnt x) → ∃ F, fX0_flood_8 n w x (nI k) = some F ∧ Cl x w F := by
  intro n
  induction n with
  | zero => intro x k _ _ h; omega
  | succ n ih =>
    intro x k hx hk hn hc
    have hxA := inA_sb hw hx
    rw [fX0_flood_8]
    have h49 : (49 : Int32) = nI 49 := by decide
    by_cases hke : k = 49
    · subst hke
      have hx0 : x = 0 := by
        rcases hc with h | h
        · exact h
        · have := cnt_49 hxA; omega
      subst hx0
      rw [if_pos (by rw [h49]; exact nI_le (Nat.le_refl _) (by omega))]
      refine ⟨0, rfl, Cl.fix hw hx ?_⟩
      refine sb_eq (fun i hi => ?_) stp_up
      rcases (bt_stp hw hx i).mp hi with q | ⟨_, j, q, _⟩
      · exact q
      · rw [bt_0] at q; cases q
    · rw [if_neg (by rw [h49]; exact nI_ge (by omega) (by omega)), ar_X0, Option.bind_some]
      change ∃ F, (if stp w x = x then some x else fX0_flood_8 n w (stp w x) (nI k + 1)) = some F ∧ Cl x w F
      by_cases hs : stp w x = x
      · rw [if_pos hs]
        exact ⟨x, rfl, Cl.fix hw hx hs⟩
      · rw [if_neg hs]
        have hlt := cnt_lt (stp_up (w := w) (x := x)) (fun e => hs e.symm)
        have hne : ¬ x = 0 := by
          rintro rfl
          apply hs
          refine sb_eq (fun i hi => ?_) stp_up
          rcases (bt_stp hw hx i).mp hi with q | ⟨_, j, q, _⟩
          · exact q
          · rw [bt_0] at q; cases q
        obtain ⟨F, h1, h2⟩ := ih (stp w x) (k + 1) (stp_sb hw hx) (by omega) (by omega) (Or.inr (by
          rcases hc with h | h
          · exact absurd h hne
          · omega))
        refine ⟨F, ?_, h2.step hw hx⟩
        rw [nI_1]; exact h1
theorem flood_X9 {w : Int64} (hw : inA w) : ∀ (n : Nat) (x y : Int64), sb x w → 50 - cnt x < n → (sb y x ∧ (x ≠ y ∨ x = 0) ∧ (x = y → x = 0)) → ∃ F, fX9_flood_8 n w x y = some F ∧ Cl x w F := by
  intro n
  induction n with
  | zero => intro x y _ h; omega
  | succ n ih =>
    intro x y hx hn hy
    have hxA := inA_sb hw hx
    rw [fX9_flood_8]
    by_cases hxy : x = y
    · rw [if_pos hxy]
      have hx0 := hy.2.2 hxy
      refine ⟨x, rfl, Cl.fix hw hx ?_⟩
      refine sb_eq (fun i hi => ?_) stp_up
      rcases (bt_stp hw hx i).mp hi with q | ⟨_, j, q, _⟩
      · exact q
      · rw [hx0, bt_0] at q; cases q
    · rw [if_neg hxy, ar_X9, Option.bind_some]
      by_cases hs : stp w x = x
      · -- one more round finds nothing new
        have hcl := Cl.fix hw hx hs
        cases n with
        | zero =>
          have := cnt_49 hxA
          omega
        | succ n =>
          rw [fX9_flood_8, if_pos (show x ||| (ar x &&& w) = x from hs)]
          exact ⟨_, rfl, by rw [show x ||| (ar x &&& w) = x from hs]; exact hcl⟩
      · have hlt := cnt_lt (stp_up (w := w) (x := x)) (fun e => hs e.symm)
        obtain ⟨F, h1, h2⟩ := ih (stp w x) x (stp_sb hw hx) (by have := cnt_49 (inA_sb hw (stp_sb hw hx)); omega) ⟨stp_up, Or.inl hs, fun e => absurd e hs⟩
        exact ⟨F, h1, h2.step hw hx⟩
def fl (s w : Int64) : Int64 := (fX0_flood s w).getD 0
theorem and_sb_r (s w : Int64) : sb (s &&& w) w := fun i h => by rw [bt_and, Bool.and_eq_true] at h; exact h.2
theorem and_sb_l (s w : Int64) : sb (s &&& w) s := fun i h => by rw [bt_and, Bool.and_eq_true] at h; exact h.1
theorem fl_X0 {s w : Int64} (hw : inA w) : fX0_flood s w = some (fl s w) ∧ Cl (s &&& w) w (fl s w) := by
  have h0 : (0 : Int32) = nI 0 := by decide
  obtain ⟨F, h1, h2⟩ := flood_X0 hw FU (s &&& w) 0 (and_sb_r s w) (by omega) (by unfold FU; omega) (by
    by_cases h : s &&& w = 0
    · exact Or.inl h
    · exact Or.inr (cnt_pos h))
  have h3 : fX0_flood s w = some F := by unfold fX0_flood; rw [h0]; exact h1
  have h4 : fl s w = F := by unfold fl; rw [h3]; rfl
  rw [h4]
  exact ⟨h3, h2⟩
theorem fl_Cl {s w : Int64} (hw : inA w) : Cl (s &&& w) w (fl s w) := (fl_X0 hw).2
theorem fl_X9 {s w : Int64} (hw : inA w) : fX9_flood s w = some (fl s w) := by
  unfold fX9_flood
  by_cases h0 : s &&& w = 0
  · have h1 : fX9_flood_8 FU w (s &&& w) 0 = some (s &&& w) := by
      obtain ⟨n, hn⟩ := FU_s
      rw [hn, fX9_flood_8, if_pos h0]
    rw [h1]
    congr 1
    refine (Cl.fix hw (and_sb_r s w) ?_).uniq (fl_Cl hw)
    refine sb_eq (fun i hi => ?_) stp_up
    rcases (bt_stp hw (and_sb_r s w) i).mp hi with q | ⟨_, j, q, _⟩
    · exact q
    · rw [h0, bt_0] at q; cases q
  · obtain ⟨F, h1, h2⟩ := flood_X9 hw FU (s &&& w) 0 (and_sb_r s w) (by unfold FU; omega) ⟨(fun i hi => by rw [bt_0] at hi; exact absurd hi (by decide)), Or.inl h0, fun e => e⟩
    rw [h1, h2.uniq (fl_Cl hw)]
/-! PURE 2: single points, the lowest point, counting. -/
def pt (p : Nat) : Int64 := x_shl 1 (nI p)
theorem bt_1 : ∀ i, i < 64 → bt 1 i = decide (i = 0) := by decide +kernel
theorem bt_pt {p : Nat} (hp : p < 64) (i : Nat) : bt (pt p) i = decide (i = p) := by
  unfold pt
  rw [bt_shl 1 hp]
  by_cases hi : i < 64
  · rw [bt_1 (i - p) (by omega)]
    by_cases h : i = p
    · subst h; simp [hi]
    · simp [h]; omega
  · simp [hi]; omega
theorem inA_pt {p : Nat} (hp : p < 49) : inA (pt p) := fun i hi => by rw [bt_pt (by omega)]; simp; omega
theorem nat_odd : ∀ x : Nat, 0 < x → ∃ m k, x = 2 ^ m * (2 * k + 1) := by
  intro x
  induction x using Nat.strongRecOn with
  | _ x ih =>
    intro hx
    by_cases h : x % 2 = 1
    · exact ⟨0, x / 2, by omega⟩
    · obtain ⟨m, k, hk⟩ := ih (x / 2) (by omega) (by omega)
      exact ⟨m + 1, k, by rw [Nat.pow_succ]; have : x = x / 2 * 2 := by omega
                          rw [this, hk, Nat.mul_right_comm]⟩
theorem bt_nat (w : Int64) (i : Nat) : bt w i = w.toBitVec.toNat.testBit i := rfl
/-- the lowest point of a set -/
theorem low_ex {a : Int64} (h : ¬ a = 0) : ∃ m, m < 64 ∧ bt a m = true ∧ (∀ i, i < m → bt a i = false) ∧ ∀ i, i < 64 → bt (a - 1) i = (decide (i < m) || (decide (m < i) && bt a i)) := by
  have hpos : 0 < a.toBitVec.toNat := by
    refine Nat.pos_of_ne_zero fun e => h ?_
    apply Int64.toBitVec_inj.mp
    apply BitVec.eq_of_toNat_eq
    rw [e]; rfl
  obtain ⟨m, k, hk⟩ := nat_odd _ hpos
  have hlt : a.toBitVec.toNat < 2 ^ 64 := a.toBitVec.isLt
  have hm : m < 64 := by
    rcases Nat.lt_or_ge m 64 with q | q
    · exact q
    · have h1 : 2 ^ 64 ≤ 2 ^ m := Nat.pow_le_pow_right (by omega) q
      have h2 : 2 ^ m * 1 ≤ 2 ^ m * (2 * k + 1) := Nat.mul_le_mul_left _ (by omega)
      omega
  have hpm : 0 < 2 ^ m := Nat.two_pow_pos m
  have ha : ∀ i, bt a i = if i < m then false else (2 * k + 1).testBit (i - m) := fun i => by
    rw [bt_nat, hk, Nat.testBit_two_pow_mul]
    by_cases q : i < m
    · simp [q]; intro h9; omega
    · simp [q]; omega
  have hodd : ∀ j, (2 * k + 1).testBit j = if j = 0 then true else k.testBit (j - 1) := fun j => by
    cases j with
    | zero => simp [Nat.testBit_zero]
    | succ j => simp [Nat.testBit_succ]; congr 1; omega
  have hev : ∀ j, (2 * k).testBit j = if j = 0 then false else k.testBit (j - 1) := fun j => by
    cases j with
    | zero => simp [Nat.testBit_zero]
    | succ j => simp [Nat.testBit_succ]
  have hs : (a - 1).toBitVec.toNat = 2 ^ m * (2 * k) + (2 ^ m - 1) := by
    rw [Int64.toBitVec_sub, BitVec.toNat_sub, hk]
    have h1 : (1 : Int64).toBitVec.toNat = 1 := by decide
    rw [h1]
    have h2 : 2 ^ m * (2 * k + 1) = 2 ^ m * (2 * k) + 2 ^ m := by rw [Nat.mul_add, Nat.mul_one]
    rw [hk] at hlt
    rw [h2] at hlt ⊢
    generalize 2 ^ m * (2 * k) = z at hlt ⊢
    generalize 2 ^ m = y at hlt hpm ⊢
    omega
  refine ⟨m, hm, ?_, ?_, ?_⟩
  · rw [ha]; simp [hodd]
  · intro i hi; rw [ha]; simp [hi]
  · intro i _
    rw [bt_nat, hs, Nat.testBit_two_pow_mul_add _ (by omega), ha]
    by_cases q : i < m
    · simp [q, Nat.testBit_two_pow_sub_one]
    · rw [if_neg q, if_neg q, hev, hodd]
      by_cases q2 : i = m
      · subst q2; simp
      · have : i - m ≠ 0 := by omega
        have h3 : m < i := by omega
        simp [this, q, h3]
theorem neg_not (a : Int64) : -a = (a - 1) ^^^ (-1) := by
  apply Int64.toBitVec_inj.mp
  rw [Int64.toBitVec_neg, Int64.toBitVec_xor, Int64.toBitVec_sub]
  have h1 : (-1 : Int64).toBitVec = BitVec.allOnes 64 := by decide
  have h2 : (1 : Int64).toBitVec = 1#64 := by decide
  rw [h1, h2, BitVec.xor_allOnes, ← BitVec.not_neg, BitVec.not_not]
theorem low_1 {a : Int64} {m : Nat} (hm : m < 64) (h1 : bt a m = true) (h2 : ∀ i, i < m → bt a i = false) (h3 : ∀ i, i < 64 → bt (a - 1) i = (decide (i < m) || (decide (m < i) && bt a i))) : a &&& (-a) = pt m := by
  refine bt_ext fun i hi => ?_
  rw [neg_not, bt_and, bt_not, bt_pt hm, h3 i hi]
  by_cases q : i = m
  · subst q; simp [h1, hi]
  · by_cases q2 : i < m
    · simp [h2 i q2, q]
    · have : m < i := by omega
      cases hb : bt a i <;> simp [this, q, q2]
theorem low_2 {a : Int64} {m : Nat} (hm : m < 64) (h1 : bt a m = true) (h2 : ∀ i, i < m → bt a i = false) (h3 : ∀ i, i < 64 → bt (a - 1) i = (decide (i < m) || (decide (m < i) && bt a i))) (i : Nat) : bt (a &&& (a - 1)) i = (bt a i && decide (i ≠ m)) := by
  rw [bt_and]
  by_cases hi : i < 64
  · rw [h3 i hi]
    by_cases q : i = m
    · subst q; simp
    · by_cases q2 : i < m
      · simp [h2 i q2]
      · have : m < i := by omega
        cases hb : bt a i <;> simp [this, q]
  · rw [bt_big (w := a) (by omega)]; rfl
theorem cnt_del {a b : Int64} {m : Nat} (hm : m < 64) (h1 : bt a m = true) (h2 : ∀ i, i < 64 → bt b i = (bt a i && decide (i ≠ m))) : cnt a = cnt b + 1 := by
  have key : ∀ l : List Nat, l.Nodup → (∀ x ∈ l, x < 64) → l.countP (bt a) = l.countP (bt b) + if m ∈ l then 1 else 0 := by
    intro l
    induction l with
    | nil => intro _ _; rfl
    | cons x t ih =>
      intro hnd hx
      have hnd' := List.nodup_cons.mp hnd
      rw [List.countP_cons, List.countP_cons, ih hnd'.2 (fun y hy => hx y (List.mem_cons_of_mem _ hy)), h2 x (hx x List.mem_cons_self)]
      by_cases q : x = m
      · subst q
        simp [h1, hnd'.1]
      · have q' : ¬ m = x := fun e => q e.symm
        simp [q, q', List.mem_cons]
        omega
  unfold cnt
  rw [key _ List.nodup_range (fun x hx => List.mem_range.mp hx), if_pos (List.mem_range.mpr hm)]
theorem bits_loop : ∀ (n : Nat) (a : Int64) (k : Nat), cnt a < n → fX9_bits_4 n (nI k) a = some (nI (k + cnt a)) := by
  intro n
  induction n with
  | zero => intro a k h; omega
  | succ n ih =>
    intro a k h
    rw [fX9_bits_4]
    by_cases h0 : a = 0
    · subst h0; rw [if_pos rfl, cnt_0]; rfl
    · rw [if_neg h0]
      obtain ⟨m, hm, h1, h2, h3⟩ := low_ex h0
      have hc := cnt_del hm h1 (b := a &&& (a - 1)) (fun i _ => low_2 hm h1 h2 h3 i)
      rw [nI_1, ih _ _ (by omega), hc]
      congr 2
      omega
theorem cnt_64 (a : Int64) : cnt a ≤ 64 := by
  have := List.countP_le_length (p := bt a) (l := List.range 64)
  simpa [cnt] using this
theorem bits_X9 (a : Int64) : fX9_bits a = some (nI (cnt a)) := by
  have h := bits_loop FU a 0 (by have := cnt_64 a; unfold FU; omega)
  rw [Nat.zero_add] at h
  unfold fX9_bits
  rw [show (0 : Int32) = nI 0 by decide]; exact h
theorem cnt_lowmask : ∀ m, m < 64 → cnt (pt m - 1) = m := by decide +kernel
theorem lowest_X9 {a : Int64} {m : Nat} (hm : m < 64) (h1 : bt a m = true) (h2 : ∀ i, i < m → bt a i = false) (h3 : ∀ i, i < 64 → bt (a - 1) i = (decide (i < m) || (decide (m < i) && bt a i))) : fX9_lowest a = some (nI m) := by
  unfold fX9_lowest
  rw [low_1 hm h1 h2 h3, bits_X9, cnt_lowmask m hm]; rfl
theorem bit_X9 (p : Nat) : fX9_bit (nI p) = some (pt p) := rfl
/-! chains -/
theorem fl_in {p : Nat} {w : Int64} (hw : inA w) (hp : bt w p = true) : bt (fl (pt p) w) p = true := by
  have h9 : p < 49 := by
    rcases Nat.lt_or_ge p 49 with q | q
    · exact q
    · rw [hw p q] at hp; cases hp
  exact (fl_Cl hw).1 p (by rw [bt_and, hp, bt_pt (by omega)]; simp)
theorem fl_sb {s w : Int64} (hw : inA w) : sb (fl s w) w := (fl_Cl hw).2.1
theorem inA_fl {s w : Int64} (hw : inA w) : inA (fl s w) := inA_sb hw (fl_sb hw)
theorem fl_cl {s w : Int64} (hw : inA w) {i j : Nat} (hj : bt (fl s w) j = true) (hn : nb i j = true) (hi : bt w i = true) : bt (fl s w) i = true := (fl_Cl hw).2.2.1 i j hj hn hi
theorem fl_ind {s w : Int64} (hw : inA w) (T : Nat → Prop) (h1 : ∀ i, bt s i = true → bt w i = true → T i) (h2 : ∀ i j, T j → nb i j = true → bt w i = true → T i) : ∀ i, bt (fl s w) i = true → T i :=
  (fl_Cl hw).2.2.2 T (fun i hi => by rw [bt_and, Bool.and_eq_true] at hi; exact h1 i hi.1 hi.2) h2
theorem lt49 {w : Int64} (hw : inA w) {i : Nat} (h : bt w i = true) : i < 49 := by
  rcases Nat.lt_or_ge i 49 with q | q
  · exact q
  · rw [hw i q] at h; cases h
theorem fl_pt_sub {s w : Int64} (hw : inA w) {p : Nat} (hp : bt s p = true) (hpw : bt w p = true) : sb (fl (pt p) w) (fl s w) :=
  fl_ind hw (fun i => bt (fl s w) i = true) (fun i hi _ => by
    have hp9 := lt49 hw hpw
    rw [bt_pt (by omega)] at hi
    simp at hi
    subst hi
    exact (fl_Cl hw).1 i (by rw [bt_and, hp, hpw]; rfl)) (fun i j hj hn hi => fl_cl hw hj hn hi)
theorem fl_un {s w : Int64} (hw : inA w) {i : Nat} : bt (fl s w) i = true ↔ ∃ p, bt s p = true ∧ bt w p = true ∧ bt (fl (pt p) w) i = true := by
  constructor
  · refine fl_ind hw (fun i => ∃ p, bt s p = true ∧ bt w p = true ∧ bt (fl (pt p) w) i = true) (fun i h1 h2 => ⟨i, h1, h2, fl_in hw h2⟩) ?_ i
    rintro i j ⟨p, a, b, c⟩ hn hi
    exact ⟨p, a, b, fl_cl hw c hn hi⟩
  · rintro ⟨p, a, b, c⟩
    exact fl_pt_sub hw a b i c
/-- a chain is the chain of each of its points -/
theorem fl_back {w : Int64} (hw : inA w) {p q : Nat} (hp : bt w p = true) (hq : bt (fl (pt p) w) q = true) : bt (fl (pt q) w) p = true := by
  have hqw := fl_sb hw q hq
  refine Classical.byContradiction fun hc => ?_
  have h1 := fl_ind (s := pt p) hw (fun i => bt (fl (pt p) w) i = true ∧ ¬ bt (fl (pt q) w) i = true) (fun i hi hiw => by
    have hp9 := lt49 hw hp
    rw [bt_pt (by omega)] at hi
    simp at hi
    subst hi
    exact ⟨fl_in hw hiw, hc⟩) (fun i j hj hn hi => ⟨fl_cl hw hj.1 hn hi, fun hz => hj.2 (fl_cl hw hz (by rw [nb_sym]; exact hn) (fl_sb hw j hj.1))⟩) q hq
  exact h1.2 (fl_in hw hqw)
theorem fl_same {w : Int64} (hw : inA w) {p q : Nat} (hp : bt w p = true) (hq : bt (fl (pt p) w) q = true) : fl (pt q) w = fl (pt p) w := by
  have hqw := fl_sb hw q hq
  have hb := fl_back hw hp hq
  refine sb_eq ?_ ?_
  · intro i hi
    refine fl_ind (s := pt q) hw (fun i => bt (fl (pt p) w) i = true) (fun i h1 _ => ?_) (fun i j hj hn hi => fl_cl hw hj hn hi) i hi
    have hq9 := lt49 hw hqw
    rw [bt_pt (by omega)] at h1
    simp at h1
    subst h1; exact hq
  · intro i hi
    refine fl_ind (s := pt p) hw (fun i => bt (fl (pt q) w) i = true) (fun i h1 _ => ?_) (fun i j hj hn hi => fl_cl hw hj hn hi) i hi
    have hp9 := lt49 hw hp
    rw [bt_pt (by omega)] at h1
    simp at h1
    subst h1; exact hb
/-! PURE 3: dead chains, a stone put. -/
def fr (c b w : Int64) : Int64 := ar c &&& ((b ||| w) ^^^ (-1))
theorem free_X9 (c b w : Int64) : fX9_free c b w = some (fr c b w) := by
  unfold fX9_free; rw [ar_X9]; rfl
theorem lib_X0 (c s : Int64) : fX0_libertiesOf c s = some (ar c &&& (s ^^^ (-1))) := rfl
theorem bt_fr {c b w : Int64} (i : Nat) : bt (fr c b w) i = (bt (ar c) i && (!bt b i && !bt w i)) := by
  unfold fr
  rw [bt_and, bt_not, bt_or]
  cases h : bt (ar c) i
  · rfl
  · have : i < 64 := by have := lt49 (inA_ar c) h; omega
    cases bt b i <;> cases bt w i <;> simp [this]
theorem dead_loop {st b w : Int64} (hst : inA st) : ∀ (n : Nat) (left out : Int64), sb left st → (∀ p, bt left p = true → sb (fl (pt p) st) left) → cnt left < n →
    (∀ i, bt out i = true ↔ (bt st i = true ∧ ¬ bt left i = true ∧ fr (fl (pt i) st) b w = 0)) → ∃ R, fX9_dead_6 n st b w left out = some R ∧ ∀ i, bt R i = true ↔ (bt st i = true ∧ fr (fl (pt i) st) b w = 0) := by
  intro n
  induction n with
  | zero => intro left out _ _ h; omega
  | succ n ih =>
    intro left out hs hc hn ho
    rw [fX9_dead_6]
    by_cases h0 : left = 0
    · subst h0
      rw [if_pos rfl]
      exact ⟨out, rfl, fun i => by rw [ho i, bt_0]; simp⟩
    · rw [if_neg h0]
      obtain ⟨m, hm, h1, h2, h3⟩ := low_ex h0
      have hmst := hs m h1
      rw [low_1 hm h1 h2 h3, fl_X9 hst, Option.bind_some, free_X9, Option.bind_some]
      have hlb : ∀ i, bt (left &&& (fl (pt m) st ^^^ (-1))) i = true ↔ (bt left i = true ∧ ¬ bt (fl (pt m) st) i = true) := fun i => by
        rw [bt_and, bt_not]
        by_cases hi : i < 64
        · simp [hi]
        · rw [bt_big (w := left) (by omega)]; simp
      have hs' : sb (left &&& (fl (pt m) st ^^^ (-1))) st := sb_tr (and_sb_l _ _) hs
      have hmC : bt (fl (pt m) st) m = true := fl_in hst hmst
      have hc' : ∀ p, bt (left &&& (fl (pt m) st ^^^ (-1))) p = true → sb (fl (pt p) st) (left &&& (fl (pt m) st ^^^ (-1))) := fun p hp i hi => by
        rw [hlb] at hp ⊢
        refine ⟨hc p hp.1 i hi, fun hz => hp.2 ?_⟩
        have e1 := fl_same hst (hs p hp.1) hi
        have e2 := fl_same hst hmst hz
        rw [← e2, e1]
        exact fl_in hst (hs p hp.1)
      have hcn : cnt (left &&& (fl (pt m) st ^^^ (-1))) < cnt left := cnt_lt (and_sb_l _ _) (fun e => by
        have h9 : bt (left &&& (fl (pt m) st ^^^ (-1))) m = true := by rw [e]; exact h1
        exact ((hlb m).mp h9).2 hmC)
      have hfin : ∀ s1 : Int64, (∀ i, bt s1 i = true ↔ (fr (fl (pt m) st) b w = 0 ∧ bt (fl (pt m) st) i = true)) → ∃ R, fX9_dead_57 (fX9_dead_6 n) st b w (left &&& (fl (pt m) st ^^^ (-1))) out s1 = some R ∧ ∀ i, bt R i = true ↔ (bt st i = true ∧ fr (fl (pt i) st) b w = 0) := by
        intro s1 hs1
        unfold fX9_dead_57
        refine ih _ _ hs' hc' (by omega) fun i => ?_
        rw [bt_or, Bool.or_eq_true, ho, hs1, hlb]
        by_cases hiC : bt (fl (pt m) st) i = true
        · have e := fl_same hst hmst hiC
          rw [e]
          constructor
          · rintro (⟨a, b, c⟩ | ⟨a, _⟩)
            · exact ⟨a, fun z => b z.1, c⟩
            · exact ⟨fl_sb hst i hiC, fun z => z.2 hiC, a⟩
          · rintro ⟨a, b, c⟩
            exact Or.inr ⟨c, hiC⟩
        · constructor
          · rintro (⟨a, b, c⟩ | ⟨_, a⟩)
            · exact ⟨a, fun z => b z.1, c⟩
            · exact absurd a hiC
          · rintro ⟨a, b, c⟩
            exact Or.inl ⟨a, fun z => b ⟨z, hiC⟩, c⟩
      by_cases hq : fr (fl (pt m) st) b w = 0
      · rw [if_pos hq]
        exact hfin _ fun i => ⟨fun h => ⟨hq, h⟩, fun h => h.2⟩
      · rw [if_neg hq]
        exact hfin _ fun i => ⟨(fun h => by rw [bt_0] at h; cases h), fun h => absurd h.1 hq⟩
def dd (st b w : Int64) : Int64 := (fX9_dead st b w).getD 0
theorem dead_X9 {st b w : Int64} (hst : inA st) : fX9_dead st b w = some (dd st b w) ∧ ∀ i, bt (dd st b w) i = true ↔ (bt st i = true ∧ fr (fl (pt i) st) b w = 0) := by
  obtain ⟨R, h1, h2⟩ := dead_loop (b := b) (w := w) hst FU st 0 (sb_rf st) (fun p _ => fl_sb hst) (by have := cnt_64 st; unfold FU; omega) (fun i => by
    rw [bt_0]
    exact ⟨(fun h => by cases h), fun h => absurd h.1 h.2.1⟩)
  have h3 : fX9_dead st b w = some R := h1
  have h4 : dd st b w = R := by unfold dd; rw [h3]; rfl
  rw [h4]; exact ⟨h3, h2⟩
/-- the other side's chains that have a liberty -/
def alv (own oth : Int64) : Int64 := fl (ar ((562949953421311 : Int64) &&& ((own ||| oth) ^^^ (-1)))) oth
theorem bt_emp (own oth : Int64) (i : Nat) : bt ((562949953421311 : Int64) &&& ((own ||| oth) ^^^ (-1))) i = true ↔ (i < 49 ∧ ¬ bt own i = true ∧ ¬ bt oth i = true) := by
  rw [bt_and, bt_not, bt_or]
  by_cases hi : i < 64
  · rw [bt_ALL i hi]; simp [hi]
  · rw [bt_big (by omega)]; simp; omega
theorem inA_emp (own oth : Int64) : inA ((562949953421311 : Int64) &&& ((own ||| oth) ^^^ (-1))) := inA_and_l inA_ALL
theorem inA_alv {own oth : Int64} (h : inA oth) : inA (alv own oth) := inA_fl h
theorem bt_alv {own oth : Int64} (ho : inA oth) (i : Nat) : bt (alv own oth) i = true ↔ (bt oth i = true ∧ ¬ fr (fl (pt i) oth) own oth = 0) := by
  unfold alv
  rw [fl_un ho]
  constructor
  · rintro ⟨p, h1, h2, h3⟩
    have e := fl_same ho h2 h3
    refine ⟨fl_sb ho i h3, ?_⟩
    rw [e, ne0_iff]
    obtain ⟨j, hj, hn⟩ := (bt_ar (inA_emp own oth) (lt49 ho h2)).mp h1
    obtain ⟨hj9, hj1, hj2⟩ := (bt_emp own oth j).mp hj
    refine ⟨j, ?_⟩
    rw [bt_fr, (bt_ar (inA_fl ho) hj9).mpr ⟨p, fl_in ho h2, by rw [nb_sym]; exact hn⟩]
    simp [hj1, hj2]
  · rintro ⟨h1, h2⟩
    rw [ne0_iff] at h2
    obtain ⟨j, hj⟩ := h2
    rw [bt_fr, Bool.and_eq_true, Bool.and_eq_true, Bool.not_eq_true', Bool.not_eq_true'] at hj
    have hj9 := lt49 (inA_ar _) hj.1
    obtain ⟨p, hp, hn⟩ := (bt_ar (inA_fl ho) hj9).mp hj.1
    have hpo := fl_sb ho p hp
    refine ⟨p, ?_, hpo, fl_back ho h1 hp⟩
    exact (bt_ar (inA_emp own oth) (lt49 ho hpo)).mpr ⟨j, (bt_emp own oth j).mpr ⟨hj9, by rw [hj.2.1]; decide, by rw [hj.2.2]; decide⟩, by rw [nb_sym]; exact hn⟩
theorem alv_dd {own oth : Int64} (ho : inA oth) : oth &&& (dd oth own oth ^^^ (-1)) = alv own oth := by
  refine sb_eq (fun i hi => ?_) (fun i hi => ?_)
  · rw [bt_and, bt_not, Bool.and_eq_true, Bool.and_eq_true, Bool.not_eq_true'] at hi
    rw [bt_alv ho]
    refine ⟨hi.1, fun hz => ?_⟩
    rw [((dead_X9 ho).2 i).mpr ⟨hi.1, hz⟩] at hi
    exact absurd hi.2.2 (by decide)
  · obtain ⟨h1, h2⟩ := (bt_alv ho i).mp hi
    have h9 := lt49 ho h1
    rw [bt_and, bt_not, h1]
    have : bt (dd oth own oth) i = false := by
      cases hd : bt (dd oth own oth) i
      · rfl
      · exact absurd (((dead_X9 ho).2 i).mp hd).2 h2
    rw [this]; simp; omega
/-- a stone that would have no liberty -/
def sui (own oth : Int64) (p : Nat) : Bool := decide (fr (fl (pt p) own) own (alv own oth) = 0)
def ownOf (b w : Int64) (c : Int32) : Int64 := if c = 0 then b else w
def othOf (b w : Int64) (c : Int32) : Int64 := if c = 0 then w else b
def putO (b w : Int64) (c : Int32) (p : Nat) : Int64 := ownOf b w c ||| pt p
def putA (b w : Int64) (c : Int32) (p : Nat) : Int64 := alv (putO b w c p) (othOf b w c)
def putS (S : MS) (b w : Int64) (c : Int32) (p : Nat) : MS :=
  ms_j (ms_j (ms_i (ms_i S 27 (nI (cnt (dd (othOf b w c) (putO b w c p) (othOf b w c))))) 28 (bi (sui (putO b w c p) (othOf b w c) p))) 25 (if c = 0 then putO b w c p else putA b w c p)) 26 (if c = 0 then putA b w c p else putO b w c p)
theorem inA_own {b w : Int64} {c : Int32} (hb : inA b) (hw : inA w) : inA (ownOf b w c) := by unfold ownOf; split <;> assumption
theorem inA_oth {b w : Int64} {c : Int32} (hb : inA b) (hw : inA w) : inA (othOf b w c) := by unfold othOf; split <;> assumption
theorem inA_putO {b w : Int64} {c : Int32} {p : Nat} (hb : inA b) (hw : inA w) (hp : p < 49) : inA (putO b w c p) := inA_or (inA_own hb hw) (inA_pt hp)
theorem inA_putA {b w : Int64} {c : Int32} {p : Nat} (hb : inA b) (hw : inA w) : inA (putA b w c p) := inA_alv (inA_oth hb hw)
theorem xbool_bi (b : Bool) : xbool (bi b) = some b := by cases b <;> rfl
theorem xbool_1 : xbool 1 = some true := rfl
theorem xbool_0 : xbool 0 = some false := rfl
theorem puts_X9 (S : MS) {b w : Int64} (c : Int32) {p : Nat} (hb : inA b) (hw : inA w) (hp : p < 49) : fX9_puts S b w c (nI p) = some (putS S b w c p) := by
  have ho : inA (othOf b w c) := inA_oth hb hw
  have hO : inA (putO b w c p) := inA_putO hb hw hp
  have e28 : ∀ own oth : Int64, inA own → inA oth → fX9_puts_28 S c (nI p) own oth = some (ms_j (ms_j (ms_i (ms_i S 27 (nI (cnt (dd oth own oth)))) 28 (bi (sui own oth p))) 25 (if c = 0 then own else alv own oth)) 26 (if c = 0 then alv own oth else own)) := by
    intro own oth h1 h2
    unfold fX9_puts_28
    rw [(dead_X9 h2).1, Option.bind_some, bits_X9, Option.bind_some, bit_X9, Option.bind_some, fl_X9 h1, Option.bind_some, free_X9, Option.bind_some, alv_dd h2]
    by_cases hz : fr (fl (pt p) own) own (alv own oth) = 0
    · rw [if_pos hz]
      have hs : sui own oth p = true := by unfold sui; simp [hz]
      rw [hs]
      unfold fX9_puts_89 fX9_puts_105 fX9_puts_121
      rw [xbool_1, Option.bind_some]
      by_cases h0 : c = 0 <;> simp [h0]
    · rw [if_neg hz]
      have hs : sui own oth p = false := by unfold sui; simp [hz]
      rw [hs]
      unfold fX9_puts_89 fX9_puts_105 fX9_puts_121
      rw [xbool_0, Option.bind_some]
      by_cases h0 : c = 0 <;> simp [h0]
  unfold fX9_puts fX9_puts_10
  simp only [bit_X9, Option.bind_some]
  by_cases h0 : c = 0
  · have e1 : putO b w c p = b ||| pt p := by simp [putO, ownOf, h0]
    have e2 : othOf b w c = w := by simp [othOf, h0]
    rw [if_pos h0, if_pos h0, e28 _ _ (by rw [← e1]; exact hO) hw]
    simp only [putS, putA, e1, e2]
  · have e1 : putO b w c p = w ||| pt p := by simp [putO, ownOf, h0]
    have e2 : othOf b w c = b := by simp [othOf, h0]
    rw [if_neg h0, if_neg h0, e28 _ _ (by rw [← e1]; exact hO) hb]
    simp only [putS, putA, e1, e2]
theorem left_X0 {own oth : Int64} {p : Nat} (hp : p < 49) (h1 : inA own) (h2 : inA oth) : fX0_leftBehind own oth (pt p) = some (if ((own ||| oth) &&& pt p) = 0 then (if sui (own ||| pt p) oth p = true then -1 else alv (own ||| pt p) oth) else -1) := by
  have hO : inA (own ||| pt p) := inA_or h1 (inA_pt hp)
  unfold fX0_leftBehind
  by_cases he : ((own ||| oth) &&& pt p) = 0
  · rw [if_pos he, if_pos he, ar_X0, Option.bind_some, (fl_X0 h2).1, Option.bind_some, (fl_X0 hO).1, Option.bind_some, lib_X0, Option.bind_some]
    change (if ar (fl (pt p) (own ||| pt p)) &&& (((own ||| pt p) ||| alv (own ||| pt p) oth) ^^^ (-1)) = 0 then some (-1) else some (alv (own ||| pt p) oth)) = _
    have e : (ar (fl (pt p) (own ||| pt p)) &&& (((own ||| pt p) ||| alv (own ||| pt p) oth) ^^^ (-1)) = 0) ↔ sui (own ||| pt p) oth p = true := by unfold sui fr; simp
    by_cases hz : sui (own ||| pt p) oth p = true
    · rw [if_pos (e.mpr hz), if_pos hz]
    · rw [if_neg (fun h => hz (e.mp h)), if_neg hz]
  · rw [if_neg he, if_neg he]
/-! PURE 4: Long.bitCount counts the points. -/
def byt (n i : Nat) : Nat := n / 2 ^ (8 * i) % 256
theorem byt_lt (n i : Nat) : byt n i < 256 := Nat.mod_lt _ (by omega)
theorem byt_tb (n i j : Nat) : (byt n i).testBit j = (decide (j < 8) && n.testBit (8 * i + j)) := by
  unfold byt
  rw [show (256 : Nat) = 2 ^ 8 by rfl, Nat.testBit_mod_two_pow, Nat.testBit_div_two_pow, Nat.add_comm j]
theorem byt_shm {n s M m i : Nat} (hM : byt M i = m) (hm : m < 2 ^ (8 - s)) (hs : s < 8) : byt ((n >>> s) &&& M) i = (byt n i >>> s) &&& m := by
  apply Nat.eq_of_testBit_eq
  intro j
  rw [byt_tb, Nat.testBit_and, Nat.testBit_and, Nat.testBit_shiftRight, Nat.testBit_shiftRight, byt_tb, ← hM, byt_tb]
  by_cases hj : j < 8
  · by_cases hj2 : s + j < 8
    · simp [hj, hj2]; rw [show s + (8 * i + j) = 8 * i + (s + j) by omega]
    · have h1 : m.testBit j = false := Nat.testBit_lt_two_pow (Nat.lt_of_lt_of_le hm (Nat.pow_le_pow_right (by omega) (by omega)))
      rw [← hM, byt_tb] at h1
      simp [hj] at h1
      simp [hj, hj2, h1]
  · simp [hj]
def s8 (c0 c1 c2 c3 c4 c5 c6 c7 : Nat) : Nat := c0 + 256 * (c1 + 256 * (c2 + 256 * (c3 + 256 * (c4 + 256 * (c5 + 256 * (c6 + 256 * c7))))))
theorem s8_of {n : Nat} (h : n < 2 ^ 64) : n = s8 (byt n 0) (byt n 1) (byt n 2) (byt n 3) (byt n 4) (byt n 5) (byt n 6) (byt n 7) := by
  unfold s8 byt
  have e : ∀ k, n / 2 ^ (8 * k) = n / 2 ^ (8 * k) % 256 + 256 * (n / 2 ^ (8 * (k + 1))) := fun k => by
    rw [show 8 * (k + 1) = 8 * k + 8 by omega, Nat.pow_add, ← Nat.div_div_eq_div_mul]
    omega
  have h0 := e 0; have h1 := e 1; have h2 := e 2; have h3 := e 3; have h4 := e 4; have h5 := e 5; have h6 := e 6; have h7 := e 7
  have h8 : n / 2 ^ (8 * (7 + 1)) = 0 := Nat.div_eq_of_lt h
  rw [h8] at h7
  simp only [Nat.mul_zero, Nat.pow_zero, Nat.div_one] at h0 ⊢
  simp only [Nat.reduceAdd] at h0 h1 h2 h3 h4 h5 h6 h7 ⊢
  omega
theorem byt_s8 {c0 c1 c2 c3 c4 c5 c6 c7 : Nat} (h0 : c0 < 256) (h1 : c1 < 256) (h2 : c2 < 256) (h3 : c3 < 256) (h4 : c4 < 256) (h5 : c5 < 256) (h6 : c6 < 256) (h7 : c7 < 256) :
    byt (s8 c0 c1 c2 c3 c4 c5 c6 c7) 0 = c0 ∧ byt (s8 c0 c1 c2 c3 c4 c5 c6 c7) 1 = c1 ∧ byt (s8 c0 c1 c2 c3 c4 c5 c6 c7) 2 = c2 ∧ byt (s8 c0 c1 c2 c3 c4 c5 c6 c7) 3 = c3 ∧ byt (s8 c0 c1 c2 c3 c4 c5 c6 c7) 4 = c4 ∧ byt (s8 c0 c1 c2 c3 c4 c5 c6 c7) 5 = c5 ∧ byt (s8 c0 c1 c2 c3 c4 c5 c6 c7) 6 = c6 ∧ byt (s8 c0 c1 c2 c3 c4 c5 c6 c7) 7 = c7 := by
  have d : ∀ c r k : Nat, c < 256 → (c + 256 * r) / 2 ^ (8 * (k + 1)) = r / 2 ^ (8 * k) := fun c r k hc => by
    rw [show 8 * (k + 1) = 8 + 8 * k by omega, Nat.pow_add, ← Nat.div_div_eq_div_mul]
    congr 1
    omega
  unfold s8 byt
  refine ⟨?_, ?_, ?_, ?_, ?_, ?_, ?_, ?_⟩
  · simp only [Nat.mul_zero, Nat.pow_zero, Nat.div_one]; omega
  · rw [d _ _ 0 h0]; simp only [Nat.mul_zero, Nat.pow_zero, Nat.div_one]; omega
  · rw [d _ _ 1 h0, d _ _ 0 h1]; simp only [Nat.mul_zero, Nat.pow_zero, Nat.div_one]; omega
  · rw [d _ _ 2 h0, d _ _ 1 h1, d _ _ 0 h2]; simp only [Nat.mul_zero, Nat.pow_zero, Nat.div_one]; omega
  · rw [d _ _ 3 h0, d _ _ 2 h1, d _ _ 1 h2, d _ _ 0 h3]; simp only [Nat.mul_zero, Nat.pow_zero, Nat.div_one]; omega
  · rw [d _ _ 4 h0, d _ _ 3 h1, d _ _ 2 h2, d _ _ 1 h3, d _ _ 0 h4]; simp only [Nat.mul_zero, Nat.pow_zero, Nat.div_one]; omega
  · rw [d _ _ 5 h0, d _ _ 4 h1, d _ _ 3 h2, d _ _ 2 h3, d _ _ 1 h4, d _ _ 0 h5]; simp only [Nat.mul_zero, Nat.pow_zero, Nat.div_one]; omega
  · rw [d _ _ 6 h0, d _ _ 5 h1, d _ _ 4 h2, d _ _ 3 h3, d _ _ 2 h4, d _ _ 1 h5, d _ _ 0 h6]; simp only [Nat.mul_zero, Nat.pow_zero, Nat.div_one]; omega
def un (x : Int64) : Nat := x.toBitVec.toNat
theorem un_lt (x : Int64) : un x < 2 ^ 64 := x.toBitVec.isLt
theorem un_and (a b : Int64) : un (a &&& b) = un a &&& un b := by unfold un; rw [Int64.toBitVec_and, BitVec.toNat_and]
theorem un_ushr (a : Int64) {n : Nat} (hn : n < 64) : un (x_ushr a (nI n)) = un a >>> n := by
  apply Nat.eq_of_testBit_eq
  intro i
  have h := bt_ushr a hn i
  rw [bt_nat, bt_nat] at h
  unfold un
  rw [h, Nat.testBit_shiftRight]
theorem un_sub {a b : Int64} (h : un b ≤ un a) : un (a - b) = un a - un b := by
  have h1 := un_lt a
  have h2 := un_lt b
  unfold un at *
  rw [Int64.toBitVec_sub, BitVec.toNat_sub]
  omega
theorem un_add {a b : Int64} (h : un a + un b < 2 ^ 64) : un (a + b) = un a + un b := by
  unfold un at *
  rw [Int64.toBitVec_add, BitVec.toNat_add, Nat.mod_eq_of_lt h]
def bf1 (b : Nat) : Nat := b - ((b >>> 1) &&& 85)
def bf2 (b : Nat) : Nat := (b &&& 51) + ((b >>> 2) &&& 51)
def bf3 (b : Nat) : Nat := b % 16 + b / 16
def pc8 (b : Nat) : Nat := (List.range 8).countP (b.testBit ·)
theorem bf_all : ∀ b, b < 256 → (b >>> 1) &&& 85 ≤ b ∧ bf2 (bf1 b) % 16 ≤ 4 ∧ bf2 (bf1 b) / 16 ≤ 4 ∧ bf3 (bf2 (bf1 b)) = pc8 b := by decide +kernel
theorem byt_5 : ∀ i, i < 8 → byt 6148914691236517205 i = 85 := by decide +kernel
theorem byt_3 : ∀ i, i < 8 → byt 3689348814741910323 i = 51 := by decide +kernel
theorem byt_15 : ∀ i, i < 8 → byt 1085102592571150095 i = 15 := by decide +kernel
theorem un_c5 : un 6148914691236517205 = 6148914691236517205 := by decide +kernel
theorem un_c3 : un 3689348814741910323 = 3689348814741910323 := by decide +kernel
theorem un_c15 : un 1085102592571150095 = 1085102592571150095 := by decide +kernel
theorem cnt_bytes (x : Int64) : cnt x = pc8 (byt (un x) 0) + pc8 (byt (un x) 1) + pc8 (byt (un x) 2) + pc8 (byt (un x) 3) + pc8 (byt (un x) 4) + pc8 (byt (un x) 5) + pc8 (byt (un x) 6) + pc8 (byt (un x) 7) := by
  have hr : List.range 64 = (List.range 8).map (8 * 0 + ·) ++ ((List.range 8).map (8 * 1 + ·) ++ ((List.range 8).map (8 * 2 + ·) ++ ((List.range 8).map (8 * 3 + ·) ++ ((List.range 8).map (8 * 4 + ·) ++ ((List.range 8).map (8 * 5 + ·) ++ ((List.range 8).map (8 * 6 + ·) ++ (List.range 8).map (8 * 7 + ·))))))) := by decide +kernel
  have hp : ∀ i, ((List.range 8).map (8 * i + ·)).countP (bt x) = pc8 (byt (un x) i) := fun i => by
    rw [List.countP_map]
    unfold pc8
    apply List.countP_congr
    intro j hj
    rw [byt_tb]
    have := List.mem_range.mp hj
    simp [this, bt_nat, un]
  unfold cnt
  rw [hr]
  simp only [List.countP_append, hp]
  omega
theorem step8 {n y : Nat} {f : Nat → Nat} (hn : n < 2 ^ 64) (hy : y = s8 (f (byt n 0)) (f (byt n 1)) (f (byt n 2)) (f (byt n 3)) (f (byt n 4)) (f (byt n 5)) (f (byt n 6)) (f (byt n 7))) (hf : ∀ b, b < 256 → f b < 256) : ∀ i, i < 8 → byt y i = f (byt n i) := by
  have h := byt_s8 (hf _ (byt_lt n 0)) (hf _ (byt_lt n 1)) (hf _ (byt_lt n 2)) (hf _ (byt_lt n 3)) (hf _ (byt_lt n 4)) (hf _ (byt_lt n 5)) (hf _ (byt_lt n 6)) (hf _ (byt_lt n 7))
  rw [← hy] at h
  intro i hi
  match i, hi with
  | 0, _ => exact h.1
  | 1, _ => exact h.2.1
  | 2, _ => exact h.2.2.1
  | 3, _ => exact h.2.2.2.1
  | 4, _ => exact h.2.2.2.2.1
  | 5, _ => exact h.2.2.2.2.2.1
  | 6, _ => exact h.2.2.2.2.2.2.1
  | 7, _ => exact h.2.2.2.2.2.2.2
  | n + 8, hi => omega
theorem bf1_lt : ∀ b, b < 256 → bf1 b < 256 := fun b h => by unfold bf1; omega
theorem bf2_lt : ∀ b, b < 256 → bf2 b < 256 := by decide +kernel
theorem mask8 {n y s m : Nat} {M : Nat} (hy : y = (n >>> s) &&& M) (hyl : y < 2 ^ 64) (hM : ∀ i, i < 8 → byt M i = m) (hm : m < 2 ^ (8 - s)) (hs : s < 8) : y = s8 ((byt n 0 >>> s) &&& m) ((byt n 1 >>> s) &&& m) ((byt n 2 >>> s) &&& m) ((byt n 3 >>> s) &&& m) ((byt n 4 >>> s) &&& m) ((byt n 5 >>> s) &&& m) ((byt n 6 >>> s) &&& m) ((byt n 7 >>> s) &&& m) := by
  have e := s8_of hyl
  have k : ∀ i, i < 8 → byt y i = (byt n i >>> s) &&& m := fun i hi => by rw [hy]; exact byt_shm (hM i hi) hm hs
  rw [k 0 (by omega), k 1 (by omega), k 2 (by omega), k 3 (by omega), k 4 (by omega), k 5 (by omega), k 6 (by omega), k 7 (by omega)] at e
  exact e
theorem s8_le {c0 c1 c2 c3 c4 c5 c6 c7 b0 b1 b2 b3 b4 b5 b6 b7 : Nat} (h0 : c0 ≤ b0) (h1 : c1 ≤ b1) (h2 : c2 ≤ b2) (h3 : c3 ≤ b3) (h4 : c4 ≤ b4) (h5 : c5 ≤ b5) (h6 : c6 ≤ b6) (h7 : c7 ≤ b7) : s8 c0 c1 c2 c3 c4 c5 c6 c7 ≤ s8 b0 b1 b2 b3 b4 b5 b6 b7 := by unfold s8; omega
theorem s8_sub {c0 c1 c2 c3 c4 c5 c6 c7 b0 b1 b2 b3 b4 b5 b6 b7 : Nat} (h0 : c0 ≤ b0) (h1 : c1 ≤ b1) (h2 : c2 ≤ b2) (h3 : c3 ≤ b3) (h4 : c4 ≤ b4) (h5 : c5 ≤ b5) (h6 : c6 ≤ b6) (h7 : c7 ≤ b7) : s8 b0 b1 b2 b3 b4 b5 b6 b7 - s8 c0 c1 c2 c3 c4 c5 c6 c7 = s8 (b0 - c0) (b1 - c1) (b2 - c2) (b3 - c3) (b4 - c4) (b5 - c5) (b6 - c6) (b7 - c7) := by unfold s8; omega
theorem s8_add {c0 c1 c2 c3 c4 c5 c6 c7 b0 b1 b2 b3 b4 b5 b6 b7 : Nat} : s8 b0 b1 b2 b3 b4 b5 b6 b7 + s8 c0 c1 c2 c3 c4 c5 c6 c7 = s8 (b0 + c0) (b1 + c1) (b2 + c2) (b3 + c3) (b4 + c4) (b5 + c5) (b6 + c6) (b7 + c7) := by unfold s8; omega
theorem s8_lt {c0 c1 c2 c3 c4 c5 c6 c7 : Nat} (h0 : c0 < 256) (h1 : c1 < 256) (h2 : c2 < 256) (h3 : c3 < 256) (h4 : c4 < 256) (h5 : c5 < 256) (h6 : c6 < 256) (h7 : c7 < 256) : s8 c0 c1 c2 c3 c4 c5 c6 c7 < 2 ^ 64 := by unfold s8; omega
theorem q16 (c r : Nat) : (c + 256 * r) / 16 = (c / 16 + 16 * (r % 16)) + 256 * (r / 16) := by omega
theorem q16m (c r : Nat) : (c + 256 * r) % 16 = c % 16 := by omega
theorem s8_16 {d0 d1 d2 d3 d4 d5 d6 d7 : Nat} : s8 d0 d1 d2 d3 d4 d5 d6 d7 / 16 = s8 (d0 / 16 + 16 * (d1 % 16)) (d1 / 16 + 16 * (d2 % 16)) (d2 / 16 + 16 * (d3 % 16)) (d3 / 16 + 16 * (d4 % 16)) (d4 / 16 + 16 * (d5 % 16)) (d5 / 16 + 16 * (d6 % 16)) (d6 / 16 + 16 * (d7 % 16)) (d7 / 16) := by
  unfold s8; simp only [q16, q16m]
theorem bc1 (x : Int64) : ∀ i, i < 8 → byt (un (x - ((x_ushr x (1 : Int32)) &&& (6148914691236517205 : Int64)))) i = bf1 (byt (un x) i) := by
  have hb := fun i => byt_lt (un x) i
  have hy1 : un ((x_ushr x (1 : Int32)) &&& (6148914691236517205 : Int64)) = (un x >>> 1) &&& 6148914691236517205 := by
    rw [un_and, un_c5, show (1 : Int32) = nI 1 by decide, un_ushr x (by omega)]
  have hm1 := mask8 hy1 (un_lt _) byt_5 (by decide) (by decide)
  have hx := s8_of (un_lt x)
  have a0 := (bf_all _ (hb 0)).1; have a1 := (bf_all _ (hb 1)).1; have a2 := (bf_all _ (hb 2)).1; have a3 := (bf_all _ (hb 3)).1; have a4 := (bf_all _ (hb 4)).1; have a5 := (bf_all _ (hb 5)).1; have a6 := (bf_all _ (hb 6)).1; have a7 := (bf_all _ (hb 7)).1
  have hle : un ((x_ushr x (1 : Int32)) &&& (6148914691236517205 : Int64)) ≤ un x := by
    rw [hm1]
    exact Nat.le_trans (s8_le a0 a1 a2 a3 a4 a5 a6 a7) (Nat.le_of_eq hx.symm)
  have hu1 : un (x - ((x_ushr x (1 : Int32)) &&& (6148914691236517205 : Int64))) = s8 (bf1 (byt (un x) 0)) (bf1 (byt (un x) 1)) (bf1 (byt (un x) 2)) (bf1 (byt (un x) 3)) (bf1 (byt (un x) 4)) (bf1 (byt (un x) 5)) (bf1 (byt (un x) 6)) (bf1 (byt (un x) 7)) := by
    rw [un_sub hle, hm1]
    exact (congrArg (fun z => z - s8 ((byt (un x) 0 >>> 1) &&& 85) ((byt (un x) 1 >>> 1) &&& 85) ((byt (un x) 2 >>> 1) &&& 85) ((byt (un x) 3 >>> 1) &&& 85) ((byt (un x) 4 >>> 1) &&& 85) ((byt (un x) 5 >>> 1) &&& 85) ((byt (un x) 6 >>> 1) &&& 85) ((byt (un x) 7 >>> 1) &&& 85)) hx).trans (s8_sub a0 a1 a2 a3 a4 a5 a6 a7)
  exact step8 (un_lt x) hu1 bf1_lt
theorem bc2 (v : Int64) : ∀ i, i < 8 → byt (un ((v &&& (3689348814741910323 : Int64)) + ((x_ushr v (2 : Int32)) &&& (3689348814741910323 : Int64)))) i = bf2 (byt (un v) i) := by
  have hya : un (v &&& (3689348814741910323 : Int64)) = (un v >>> 0) &&& 3689348814741910323 := by rw [un_and, un_c3]; rfl
  have hyb : un ((x_ushr v (2 : Int32)) &&& (3689348814741910323 : Int64)) = (un v >>> 2) &&& 3689348814741910323 := by
    rw [un_and, un_c3, show (2 : Int32) = nI 2 by decide, un_ushr v (by omega)]
  have hma := mask8 hya (un_lt _) byt_3 (by decide) (by decide)
  have hmb := mask8 hyb (un_lt _) byt_3 (by decide) (by decide)
  have hsum : un (v &&& (3689348814741910323 : Int64)) + un ((x_ushr v (2 : Int32)) &&& (3689348814741910323 : Int64)) = s8 (bf2 (byt (un v) 0)) (bf2 (byt (un v) 1)) (bf2 (byt (un v) 2)) (bf2 (byt (un v) 3)) (bf2 (byt (un v) 4)) (bf2 (byt (un v) 5)) (bf2 (byt (un v) 6)) (bf2 (byt (un v) 7)) := by
    rw [hma, hmb, s8_add]; rfl
  have b := fun i => bf2_lt _ (byt_lt (un v) i)
  have hu2 := un_add (by rw [hsum]; exact s8_lt (b 0) (b 1) (b 2) (b 3) (b 4) (b 5) (b 6) (b 7))
  rw [hsum] at hu2
  exact step8 (un_lt v) hu2 bf2_lt
theorem by15 (y : Nat) : (y >>> 0) &&& 15 = y % 16 := Nat.and_two_pow_sub_one_eq_mod y 4
theorem e_lt {a b : Nat} (h1 : a % 16 ≤ 4 ∧ a / 16 ≤ 4) (h2 : b % 16 ≤ 4 ∧ b / 16 ≤ 4) : a + (a / 16 + 16 * (b % 16)) < 256 := by omega
theorem e7_lt {a : Nat} (h1 : a % 16 ≤ 4 ∧ a / 16 ≤ 4) : a + a / 16 < 256 := by omega
theorem e_m {a b : Nat} (h1 : a % 16 ≤ 4 ∧ a / 16 ≤ 4) : (a + (a / 16 + 16 * (b % 16))) % 16 = a % 16 + a / 16 := by omega
theorem e7_m {a : Nat} (h1 : a % 16 ≤ 4 ∧ a / 16 ≤ 4) : (a + a / 16) % 16 = a % 16 + a / 16 := by omega
theorem bc3a {v : Int64} {d0 d1 d2 d3 d4 d5 d6 d7 : Nat} (hv : un v = s8 d0 d1 d2 d3 d4 d5 d6 d7) (h0 : d0 % 16 ≤ 4 ∧ d0 / 16 ≤ 4) (h1 : d1 % 16 ≤ 4 ∧ d1 / 16 ≤ 4) (h2 : d2 % 16 ≤ 4 ∧ d2 / 16 ≤ 4) (h3 : d3 % 16 ≤ 4 ∧ d3 / 16 ≤ 4) (h4 : d4 % 16 ≤ 4 ∧ d4 / 16 ≤ 4) (h5 : d5 % 16 ≤ 4 ∧ d5 / 16 ≤ 4) (h6 : d6 % 16 ≤ 4 ∧ d6 / 16 ≤ 4) (h7 : d7 % 16 ≤ 4 ∧ d7 / 16 ≤ 4) : un (v + (x_ushr v (4 : Int32))) = s8 (d0 + (d0 / 16 + 16 * (d1 % 16))) (d1 + (d1 / 16 + 16 * (d2 % 16))) (d2 + (d2 / 16 + 16 * (d3 % 16))) (d3 + (d3 / 16 + 16 * (d4 % 16))) (d4 + (d4 / 16 + 16 * (d5 % 16))) (d5 + (d5 / 16 + 16 * (d6 % 16))) (d6 + (d6 / 16 + 16 * (d7 % 16))) (d7 + d7 / 16) := by
  have hs4 : un (x_ushr v (4 : Int32)) = un v / 16 := by rw [show (4 : Int32) = nI 4 by decide, un_ushr v (by omega), Nat.shiftRight_eq_div_pow]
  have hq : un v + un (x_ushr v (4 : Int32)) = s8 (d0 + (d0 / 16 + 16 * (d1 % 16))) (d1 + (d1 / 16 + 16 * (d2 % 16))) (d2 + (d2 / 16 + 16 * (d3 % 16))) (d3 + (d3 / 16 + 16 * (d4 % 16))) (d4 + (d4 / 16 + 16 * (d5 % 16))) (d5 + (d5 / 16 + 16 * (d6 % 16))) (d6 + (d6 / 16 + 16 * (d7 % 16))) (d7 + d7 / 16) := by
    rw [hs4, hv, s8_16, s8_add]
  have hlt : un v + un (x_ushr v (4 : Int32)) < 2 ^ 64 := by
    rw [hq]; exact s8_lt (e_lt h0 h1) (e_lt h1 h2) (e_lt h2 h3) (e_lt h3 h4) (e_lt h4 h5) (e_lt h5 h6) (e_lt h6 h7) (e7_lt h7)
  rw [un_add hlt, hq]
theorem bc3b (y : Int64) (i : Nat) (hi : i < 8) : byt (un (y &&& (1085102592571150095 : Int64))) i = byt (un y) i % 16 := by
  have h := byt_shm (n := un y) (s := 0) (byt_15 i hi) (by decide) (by decide)
  rw [Nat.shiftRight_zero, Nat.shiftRight_zero] at h
  rw [un_and, un_c15, h]
  exact Nat.and_two_pow_sub_one_eq_mod _ 4
theorem bc3 (v : Int64) (h : ∀ i, i < 8 → byt (un v) i % 16 ≤ 4 ∧ byt (un v) i / 16 ≤ 4) (i : Nat) (hi : i < 8) : byt (un ((v + (x_ushr v (4 : Int32))) &&& (1085102592571150095 : Int64))) i = bf3 (byt (un v) i) := by
  rw [bc3b _ i hi]
  have h0 := h 0 (by omega); have h1 := h 1 (by omega); have h2 := h 2 (by omega); have h3 := h 3 (by omega); have h4 := h 4 (by omega); have h5 := h 5 (by omega); have h6 := h 6 (by omega); have h7 := h 7 (by omega)
  rw [bc3a (s8_of (un_lt v)) h0 h1 h2 h3 h4 h5 h6 h7]
  have hB := byt_s8 (e_lt h0 h1) (e_lt h1 h2) (e_lt h2 h3) (e_lt h3 h4) (e_lt h4 h5) (e_lt h5 h6) (e_lt h6 h7) (e7_lt h7)
  unfold bf3
  match i, hi with
  | 0, _ => rw [hB.1, e_m h0]
  | 1, _ => rw [hB.2.1, e_m h1]
  | 2, _ => rw [hB.2.2.1, e_m h2]
  | 3, _ => rw [hB.2.2.2.1, e_m h3]
  | 4, _ => rw [hB.2.2.2.2.1, e_m h4]
  | 5, _ => rw [hB.2.2.2.2.2.1, e_m h5]
  | 6, _ => rw [hB.2.2.2.2.2.2.1, e_m h6]
  | 7, _ => rw [hB.2.2.2.2.2.2.2, e7_m h7]
  | n + 8, hi => omega
theorem sh8 {c0 c1 c2 c3 c4 c5 c6 c7 : Nat} (h0 : c0 < 256) : s8 c0 c1 c2 c3 c4 c5 c6 c7 / 256 = s8 c1 c2 c3 c4 c5 c6 c7 0 := by unfold s8; omega
theorem sh16 {c0 c1 c2 c3 c4 c5 c6 c7 : Nat} (h0 : c0 < 256) (h1 : c1 < 256) : s8 c0 c1 c2 c3 c4 c5 c6 c7 / 65536 = s8 c2 c3 c4 c5 c6 c7 0 0 := by unfold s8; omega
theorem sh32 {c0 c1 c2 c3 c4 c5 c6 c7 : Nat} (h0 : c0 < 256) (h1 : c1 < 256) (h2 : c2 < 256) (h3 : c3 < 256) : s8 c0 c1 c2 c3 c4 c5 c6 c7 / 4294967296 = s8 c4 c5 c6 c7 0 0 0 0 := by unfold s8; omega
theorem s8_m {c0 c1 c2 c3 c4 c5 c6 c7 : Nat} (h0 : c0 < 256) : s8 c0 c1 c2 c3 c4 c5 c6 c7 % 256 = c0 := by unfold s8; omega
theorem bc4 (v : Int64) {c0 c1 c2 c3 c4 c5 c6 c7 : Nat} (hv : un v = s8 c0 c1 c2 c3 c4 c5 c6 c7) (h0 : c0 ≤ 8) (h1 : c1 ≤ 8) (h2 : c2 ≤ 8) (h3 : c3 ≤ 8) (h4 : c4 ≤ 8) (h5 : c5 ≤ 8) (h6 : c6 ≤ 8) (h7 : c7 ≤ 8) : fJ_bitCount_34 v = some (nI (c0 + c1 + c2 + c3 + c4 + c5 + c6 + c7)) := by
  have s1 : ∀ (w : Int64) (a0 a1 a2 a3 a4 a5 a6 a7 : Nat), un w = s8 a0 a1 a2 a3 a4 a5 a6 a7 → a0 ≤ 8 → a1 ≤ 8 → a2 ≤ 8 → a3 ≤ 8 → a4 ≤ 8 → a5 ≤ 8 → a6 ≤ 8 → a7 ≤ 8 → un (w + x_ushr w (8 : Int32)) = s8 (a0 + a1) (a1 + a2) (a2 + a3) (a3 + a4) (a4 + a5) (a5 + a6) (a6 + a7) (a7 + 0) := by
    intro w a0 a1 a2 a3 a4 a5 a6 a7 hw b0 b1 b2 b3 b4 b5 b6 b7
    have e : un w + un (x_ushr w (8 : Int32)) = s8 (a0 + a1) (a1 + a2) (a2 + a3) (a3 + a4) (a4 + a5) (a5 + a6) (a6 + a7) (a7 + 0) := by
      rw [show (8 : Int32) = nI 8 by decide, un_ushr w (by omega), Nat.shiftRight_eq_div_pow, hw, show 2 ^ 8 = 256 from rfl, sh8 (by omega), s8_add]
    rw [un_add (by rw [e]; exact s8_lt (by omega) (by omega) (by omega) (by omega) (by omega) (by omega) (by omega) (by omega) ), e]
  have s2 : ∀ (w : Int64) (a0 a1 a2 a3 a4 a5 a6 a7 : Nat), un w = s8 a0 a1 a2 a3 a4 a5 a6 a7 → a0 ≤ 16 → a1 ≤ 16 → a2 ≤ 16 → a3 ≤ 16 → a4 ≤ 16 → a5 ≤ 16 → a6 ≤ 16 → a7 ≤ 16 → un (w + x_ushr w (16 : Int32)) = s8 (a0 + a2) (a1 + a3) (a2 + a4) (a3 + a5) (a4 + a6) (a5 + a7) (a6 + 0) (a7 + 0) := by
    intro w a0 a1 a2 a3 a4 a5 a6 a7 hw b0 b1 b2 b3 b4 b5 b6 b7
    have e : un w + un (x_ushr w (16 : Int32)) = s8 (a0 + a2) (a1 + a3) (a2 + a4) (a3 + a5) (a4 + a6) (a5 + a7) (a6 + 0) (a7 + 0) := by
      rw [show (16 : Int32) = nI 16 by decide, un_ushr w (by omega), Nat.shiftRight_eq_div_pow, hw, show 2 ^ 16 = 65536 from rfl, sh16 (by omega) (by omega), s8_add]
    rw [un_add (by rw [e]; exact s8_lt (by omega) (by omega) (by omega) (by omega) (by omega) (by omega) (by omega) (by omega) ), e]
  have s3 : ∀ (w : Int64) (a0 a1 a2 a3 a4 a5 a6 a7 : Nat), un w = s8 a0 a1 a2 a3 a4 a5 a6 a7 → a0 ≤ 32 → a1 ≤ 32 → a2 ≤ 32 → a3 ≤ 32 → a4 ≤ 32 → a5 ≤ 32 → a6 ≤ 32 → a7 ≤ 32 → un (w + x_ushr w (32 : Int32)) % 256 = a0 + a4 := by
    intro w a0 a1 a2 a3 a4 a5 a6 a7 hw b0 b1 b2 b3 b4 b5 b6 b7
    have e : un w + un (x_ushr w (32 : Int32)) = s8 (a0 + a4) (a1 + a5) (a2 + a6) (a3 + a7) (a4 + 0) (a5 + 0) (a6 + 0) (a7 + 0) := by
      rw [show (32 : Int32) = nI 32 by decide, un_ushr w (by omega), Nat.shiftRight_eq_div_pow, hw, show 2 ^ 32 = 4294967296 from rfl, sh32 (by omega) (by omega) (by omega) (by omega), s8_add]
    rw [un_add (by rw [e]; exact s8_lt (by omega) (by omega) (by omega) (by omega) (by omega) (by omega) (by omega) (by omega) ), e]
    exact s8_m (by omega)
  unfold fJ_bitCount_34 fJ_bitCount_41 fJ_bitCount_48 fJ_bitCount_55
  have k1 := s1 v _ _ _ _ _ _ _ _ hv h0 h1 h2 h3 h4 h5 h6 h7
  generalize v + x_ushr v (8 : Int32) = v4 at k1 ⊢
  have k2 := s2 v4 _ _ _ _ _ _ _ _ k1 (by omega) (by omega) (by omega) (by omega) (by omega) (by omega) (by omega) (by omega) 
  generalize v4 + x_ushr v4 (16 : Int32) = v5 at k2 ⊢
  have k3 := s3 v5 _ _ _ _ _ _ _ _ k2 (by omega) (by omega) (by omega) (by omega) (by omega) (by omega) (by omega) (by omega) 
  generalize v5 + x_ushr v5 (32 : Int32) = v6 at k3 ⊢
  congr 1
  apply Int32.toBitVec_inj.mp
  apply BitVec.eq_of_toNat_eq
  rw [Int32.toBitVec_and, BitVec.toNat_and, show (127 : Int32).toBitVec.toNat = 2 ^ 7 - 1 by decide, Nat.and_two_pow_sub_one_eq_mod]
  have q1 : v6.toInt32.toBitVec.toNat = un v6 % 2 ^ 32 := by
    rw [Int64.toBitVec_toInt32, BitVec.signExtend_eq_setWidth_of_le _ (by decide), BitVec.toNat_setWidth]; rfl
  have q2 : (nI (c0 + c1 + c2 + c3 + c4 + c5 + c6 + c7)).toBitVec.toNat = c0 + c1 + c2 + c3 + c4 + c5 + c6 + c7 := pk_tn (by omega)
  rw [q1, q2]
  omega
theorem bf_4 : ∀ b, b < 256 → bf3 (bf2 (bf1 b)) ≤ 8 := by decide +kernel
theorem bitCount_J (x : Int64) : fJ_bitCount x = some (nI (cnt x)) := by
  unfold fJ_bitCount fJ_bitCount_10 fJ_bitCount_24
  have k1 := bc1 x
  generalize x - ((x_ushr x (1 : Int32)) &&& (6148914691236517205 : Int64)) = v1 at k1 ⊢
  have k2 := bc2 v1
  generalize (v1 &&& (3689348814741910323 : Int64)) + ((x_ushr v1 (2 : Int32)) &&& (3689348814741910323 : Int64)) = v2 at k2 ⊢
  have k3 := bc3 v2 (fun i hi => by
    have := bf_all _ (byt_lt (un x) i)
    rw [k2 i hi, k1 i hi]; exact ⟨this.2.1, this.2.2.1⟩)
  generalize (v2 + (x_ushr v2 (4 : Int32))) &&& (1085102592571150095 : Int64) = v3 at k3 ⊢
  have k : ∀ i, i < 8 → byt (un v3) i = bf3 (bf2 (bf1 (byt (un x) i))) := fun i hi => by rw [k3 i hi, k2 i hi, k1 i hi]
  have hv := s8_of (un_lt v3)
  rw [k 0 (by omega), k 1 (by omega), k 2 (by omega), k 3 (by omega), k 4 (by omega), k 5 (by omega), k 6 (by omega), k 7 (by omega)] at hv
  have b := fun i => bf_4 _ (byt_lt (un x) i)
  have g := fun i => (bf_all _ (byt_lt (un x) i)).2.2.2
  rw [bc4 v3 hv (b 0) (b 1) (b 2) (b 3) (b 4) (b 5) (b 6) (b 7), cnt_bytes, g 0, g 1, g 2, g 3, g 4, g 5, g 6, g 7]
