/-! PURE 1: sets of points as the bits of a long number; neighbours; flooding. -/
def bt (w : Int64) (i : Nat) : Bool := w.toBitVec.getLsbD i
theorem bt_big {w : Int64} {i : Nat} (h : 64 ≤ i) : bt w i = false := BitVec.getLsbD_of_ge _ _ h
theorem bt_and (a b : Int64) (i : Nat) : bt (a &&& b) i = (bt a i && bt b i) := by simp [bt, Int64.toBitVec_and]
theorem bt_or (a b : Int64) (i : Nat) : bt (a ||| b) i = (bt a i || bt b i) := by simp [bt, Int64.toBitVec_or]
theorem bt_xor (a b : Int64) (i : Nat) : bt (a ^^^ b) i = (bt a i ^^ bt b i) := by simp [bt, Int64.toBitVec_xor]
theorem bt_m1 : ∀ i, i < 64 → bt (-1) i = true := by decide +kernel
theorem bt_0 (i : Nat) : bt 0 i = false := by simp [bt]
theorem bt_not (a : Int64) (i : Nat) : bt (a ^^^ (-1)) i = (decide (i < 64) && !bt a i) := by
  rw [bt_xor]
  by_cases h : i < 64
  · rw [bt_m1 i h]; simp [h]
  · rw [bt_big (w := a) (by omega), bt_big (w := -1) (by omega)]; simp [h]
theorem bt_ext {a b : Int64} (h : ∀ i, i < 64 → bt a i = bt b i) : a = b := by
  apply Int64.toBitVec_inj.mp
  apply BitVec.eq_of_getLsbD_eq
  intro i hi
  exact h i hi
theorem x_shN : ∀ n, n < 64 → ((nI n).toInt64 &&& 63).toBitVec.smod 64 = BitVec.ofNat 64 n := by decide +kernel
theorem x_usN : ∀ n, n < 64 → ((nI n).toInt64.toUInt64 &&& Int64.toUInt64 63).toBitVec % 64 = BitVec.ofNat 64 n := by decide +kernel
theorem bt_shl (a : Int64) {n : Nat} (hn : n < 64) (i : Nat) : bt (x_shl a (nI n)) i = (decide (i < 64) && (decide (n ≤ i) && bt a (i - n))) := by
  unfold x_shl bt
  rw [Int64.toBitVec_shiftLeft, x_shN n hn, BitVec.shiftLeft_eq', BitVec.toNat_ofNat, Nat.mod_eq_of_lt (show n < 2 ^ 64 by omega), BitVec.getLsbD_shiftLeft]
  by_cases h : i < 64
  · by_cases h2 : i < n
    · simp [h, h2]; intro h3; omega
    · simp [h, h2]; omega
  · simp [h]
theorem bt_ushr (a : Int64) {n : Nat} (hn : n < 64) (i : Nat) : bt (x_ushr a (nI n)) i = bt a (n + i) := by
  unfold x_ushr bt
  have h1 : ((a.toUInt64 >>> ((nI n).toInt64.toUInt64 &&& Int64.toUInt64 63)).toInt64).toBitVec = a.toBitVec >>> n := by
    show (a.toUInt64 >>> ((nI n).toInt64.toUInt64 &&& Int64.toUInt64 63)).toBitVec = _
    rw [UInt64.toBitVec_shiftRight, x_usN n hn, BitVec.ushiftRight_eq', BitVec.toNat_ofNat, Nat.mod_eq_of_lt (show n < 2 ^ 64 by omega)]
    rfl
  rw [h1, BitVec.getLsbD_ushiftRight]
/-- a set of points: nothing beyond the board -/
def inA (w : Int64) : Prop := ∀ i, 49 ≤ i → bt w i = false
def sb (a b : Int64) : Prop := ∀ i, bt a i = true → bt b i = true
theorem sb_rf (a : Int64) : sb a a := fun _ h => h
theorem sb_tr {a b c : Int64} (h1 : sb a b) (h2 : sb b c) : sb a c := fun i h => h2 i (h1 i h)
theorem sb_eq {a b : Int64} (h1 : sb a b) (h2 : sb b a) : a = b := bt_ext fun i _ => by
  cases ha : bt a i <;> cases hb : bt b i <;> first | rfl | (rw [h1 i ha] at hb; cases hb) | (rw [h2 i hb] at ha; cases ha)
theorem inA_sb {a b : Int64} (h : inA b) (h1 : sb a b) : inA a := fun i hi => by
  cases ha : bt a i
  · rfl
  · rw [h1 i ha] at h; exact absurd (h1 i ha) (by rw [h i hi]; decide)
theorem eq0_iff {a : Int64} : a = 0 ↔ ∀ i, bt a i = false := by
  constructor
  · rintro rfl i; exact bt_0 i
  · intro h; exact bt_ext fun i _ => by rw [h i, bt_0]
theorem ne0_iff {a : Int64} : ¬ a = 0 ↔ ∃ i, bt a i = true := by
  rw [eq0_iff]
  constructor
  · intro h
    exact Classical.byContradiction fun hc => h fun i => by
      cases hb : bt a i
      · rfl
      · exact absurd ⟨i, hb⟩ hc
  · rintro ⟨i, hi⟩ h; rw [h i] at hi; cases hi
theorem inA_and_l {a b : Int64} (h : inA a) : inA (a &&& b) := fun i hi => by rw [bt_and, h i hi]; rfl
theorem inA_and_r {a b : Int64} (h : inA b) : inA (a &&& b) := fun i hi => by rw [bt_and, h i hi]; simp
theorem inA_or {a b : Int64} (ha : inA a) (hb : inA b) : inA (a ||| b) := fun i hi => by rw [bt_or, ha i hi, hb i hi]; rfl
theorem inA_0 : inA 0 := fun i _ => bt_0 i
theorem bt_ALL : ∀ i, i < 64 → bt 562949953421311 i = decide (i < 49) := by decide +kernel
theorem inA_ALL : inA 562949953421311 := fun i hi => by
  by_cases h : i < 64
  · rw [bt_ALL i h]; simp; omega
  · exact bt_big (by omega)
theorem bt_ALL' {i : Nat} (h : i < 49) : bt 562949953421311 i = true := by rw [bt_ALL i (by omega)]; simp [h]
/-- neighbours -/
def nb (i j : Nat) : Bool := decide (i = j + 7) || decide (j = i + 7) || (decide (i = j + 1) && decide (j % 7 ≠ 6)) || (decide (j = i + 1) && decide (i % 7 ≠ 6))
theorem nb_sym (i j : Nat) : nb i j = nb j i := by
  unfold nb
  cases decide (i = j + 7) <;> cases decide (j = i + 7) <;> simp [Bool.or_comm, Bool.and_comm]
def ar (w : Int64) : Int64 := ((((x_shl w (7 : Int32)) ||| (x_ushr w (7 : Int32))) ||| ((x_shl (w &&& (-283691315109953 : Int64)) (1 : Int32)) ||| (x_ushr (w &&& (-4432676798594 : Int64)) (1 : Int32)))) &&& (562949953421311 : Int64))
theorem ar_X0 (w : Int64) : fX0_around w = some (ar w) := rfl
theorem ar_X9 (w : Int64) : fX9_around w = some (ar w) := by
  unfold fX9_around ar
  congr 2
  refine bt_ext fun i _ => ?_
  simp only [bt_or]
  cases bt (x_shl w 7) i <;> cases bt (x_ushr w 7) i <;> simp
theorem bt_nR : ∀ j, j < 49 → bt (-283691315109953) j = decide (j % 7 ≠ 6) := by decide +kernel
theorem bt_nL : ∀ j, j < 49 → bt (-4432676798594) j = decide (j % 7 ≠ 0) := by decide +kernel
theorem inA_ar (w : Int64) : inA (ar w) := inA_and_r inA_ALL
theorem bt_ar {w : Int64} (hw : inA w) {i : Nat} (hi : i < 49) : bt (ar w) i = true ↔ ∃ j, bt w j = true ∧ nb i j = true := by
  have h7 : (7 : Int32) = nI 7 := by decide
  have h1 : (1 : Int32) = nI 1 := by decide
  have hlt : ∀ j, bt w j = true → j < 49 := fun j hj => by
    rcases Nat.lt_or_ge j 49 with h | h
    · exact h
    · rw [hw j h] at hj; cases hj
  unfold ar
  rw [bt_and, bt_ALL' hi, Bool.and_true, h7, h1, bt_or, bt_or, bt_or, bt_shl w (by omega), bt_ushr w (by omega), bt_shl _ (by omega), bt_ushr _ (by omega), bt_and, bt_and]
  simp only [Bool.or_eq_true, Bool.and_eq_true, decide_eq_true_eq]
  constructor
  · rintro ((⟨-, h2, h3⟩ | h3) | ⟨-, h2, h3, h4⟩ | ⟨h3, h4⟩)
    · exact ⟨_, h3, by simp [nb]; omega⟩
    · exact ⟨_, h3, by simp [nb]; omega⟩
    · refine ⟨_, h3, ?_⟩
      rw [bt_nR _ (hlt _ h3)] at h4
      simp at h4
      simp [nb, h4]; omega
    · refine ⟨_, h3, ?_⟩
      rw [bt_nL _ (hlt _ h3)] at h4
      simp at h4
      simp [nb]; omega
  · rintro ⟨j, hj, hn⟩
    have hj9 := hlt j hj
    simp only [nb, Bool.or_eq_true, Bool.and_eq_true, decide_eq_true_eq] at hn
    rcases hn with ((hn | hn) | ⟨hn, h6⟩) | ⟨hn, h6⟩
    · exact Or.inl (Or.inl ⟨by omega, by omega, by rw [show i - 7 = j by omega]; exact hj⟩)
    · exact Or.inl (Or.inr (by rw [show 7 + i = j by omega]; exact hj))
    · refine Or.inr (Or.inl ⟨by omega, by omega, ?_, ?_⟩)
      · rw [show i - 1 = j by omega]; exact hj
      · rw [show i - 1 = j by omega, bt_nR j hj9]; simp [h6]
    · refine Or.inr (Or.inr ⟨?_, ?_⟩)
      · rw [show 1 + i = j by omega]; exact hj
      · rw [show 1 + i = j by omega, bt_nL j hj9]; simp; omega
/-- how many points -/
def cnt (w : Int64) : Nat := (List.range 64).countP (bt w)
theorem countP_lt {l : List Nat} {p q : Nat → Bool} (h : ∀ x, p x = true → q x = true) {x : Nat} (hx : x ∈ l) (hq : q x = true) (hp : p x = false) : l.countP p < l.countP q := by
  induction l with
  | nil => cases hx
  | cons a t ih =>
    have hle : ∀ t : List Nat, t.countP p ≤ t.countP q := fun t => List.countP_mono_left fun x _ => h x
    rw [List.countP_cons, List.countP_cons]
    rcases List.mem_cons.mp hx with rfl | hx
    · have := hle t
      simp only [hq, hp]; simp; omega
    · have h1 := ih hx
      by_cases ha : p a = true
      · simp only [ha, h a ha]; simp; omega
      · simp only [ha]; simp; split <;> omega
theorem cnt_lt {a b : Int64} (h : sb a b) (hn : a ≠ b) : cnt a < cnt b := by
  have : ∃ i, i < 64 ∧ bt b i = true ∧ bt a i = false := Classical.byContradiction fun hc => hn (sb_eq h fun i hi => by
    cases ha : bt a i
    · refine absurd ⟨i, ?_, hi, ha⟩ hc
      rcases Nat.lt_or_ge i 64 with q | q
      · exact q
      · rw [bt_big q] at hi; cases hi
    · rfl)
  obtain ⟨i, hi, h1, h2⟩ := this
  exact countP_lt h (List.mem_range.mpr hi) h1 h2
theorem cnt_le {a b : Int64} (h : sb a b) : cnt a ≤ cnt b := List.countP_mono_left fun x _ => h x
theorem cnt_49 {w : Int64} (h : inA w) : cnt w ≤ 49 := by
  have h1 : cnt 562949953421311 = 49 := by decide +kernel
  rw [← h1]
  refine cnt_le fun i hi => ?_
  rcases Nat.lt_or_ge i 49 with q | q
  · exact bt_ALL' q
  · rw [h i q] at hi; cases hi
theorem cnt_pos {w : Int64} (h : ¬ w = 0) : 0 < cnt w := by
  have h1 := cnt_lt (a := 0) (b := w) (fun i hi => by rw [bt_0] at hi; cases hi) (fun e => h e.symm)
  omega
theorem cnt_0 : cnt 0 = 0 := by decide +kernel
/-- F is what hangs together with s within w -/
def Cl (s w F : Int64) : Prop := sb s F ∧ sb F w ∧ (∀ i j, bt F j = true → nb i j = true → bt w i = true → bt F i = true) ∧ ∀ T : Nat → Prop, (∀ i, bt s i = true → T i) → (∀ i j, T j → nb i j = true → bt w i = true → T i) → ∀ i, bt F i = true → T i
theorem Cl.uniq {s w F G : Int64} (h1 : Cl s w F) (h2 : Cl s w G) : F = G :=
  sb_eq (fun i => h1.2.2.2 (fun i => bt G i = true) h2.1 (fun i j a b c => h2.2.2.1 i j a b c) i) (fun i => h2.2.2.2 (fun i => bt F i = true) h1.1 (fun i j a b c => h1.2.2.1 i j a b c) i)
def stp (w x : Int64) : Int64 := x ||| (ar x &&& w)
theorem bt_stp {w x : Int64} (hw : inA w) (hx : sb x w) (i : Nat) : bt (stp w x) i = true ↔ bt x i = true ∨ (bt w i = true ∧ ∃ j, bt x j = true ∧ nb i j = true) := by
  have hxA := inA_sb hw hx
  unfold stp
  rw [bt_or, bt_and, Bool.or_eq_true, Bool.and_eq_true]
  constructor
  · rintro (h | ⟨h1, h2⟩)
    · exact Or.inl h
    · have hi : i < 49 := by
        rcases Nat.lt_or_ge i 49 with q | q
        · exact q
        · rw [hw i q] at h2; cases h2
      exact Or.inr ⟨h2, (bt_ar hxA hi).mp h1⟩
  · rintro (h | ⟨h2, h1⟩)
    · exact Or.inl h
    · have hi : i < 49 := by
        rcases Nat.lt_or_ge i 49 with q | q
        · exact q
        · rw [hw i q] at h2; cases h2
      exact Or.inr ⟨(bt_ar hxA hi).mpr h1, h2⟩
theorem stp_sb {w x : Int64} (hw : inA w) (hx : sb x w) : sb (stp w x) w := fun i h => by
  rcases (bt_stp hw hx i).mp h with q | q
  · exact hx i q
  · exact q.1
theorem stp_up {w x : Int64} : sb x (stp w x) := fun i h => by unfold stp; rw [bt_or, h]; rfl
theorem Cl.step {w x F : Int64} (hw : inA w) (hx : sb x w) (h : Cl (stp w x) w F) : Cl x w F :=
  ⟨sb_tr stp_up h.1, h.2.1, h.2.2.1, fun T h1 h2 => h.2.2.2 T (fun i hi => by
    rcases (bt_stp hw hx i).mp hi with q | ⟨q1, j, q2, q3⟩
    · exact h1 i q
    · exact h2 i j (h1 j q2) q3 q1) h2⟩
theorem Cl.fix {w x : Int64} (hw : inA w) (hx : sb x w) (h : stp w x = x) : Cl x w x :=
  ⟨sb_rf x, hx, fun i j h1 h2 h3 => by rw [← h]; exact (bt_stp hw hx i).mpr (Or.inr ⟨h3, j, h1, h2⟩), fun T h1 _ => h1⟩
theorem flood_X0 {w : Int64} (hw : inA w) : ∀ (n : Nat) (x : Int64) (k : Nat), sb x w → k ≤ 49 → 49 - k < n → (x = 0 ∨ k + 1 ≤ cnt x) → ∃ F, fX0_flood_8 n w x (nI k) = some F ∧ Cl x w F := by
  intro n
  induction n with
  | zero => intro x k _ _ h; omega
  | succ n ih =>
    intro x k hx hk hn hc
    have hxA := inA_sb hw hx
    rw [fX0_flood_8]
    have h49 : (49 : Int32) = nI 49 := by decide
    by_cases hke : k = 49
    · subst hke
      have hx0 : x = 0 := by
        rcases hc with h | h
        · exact h
        · have := cnt_49 hxA; omega
      subst hx0
      rw [if_pos (by rw [h49]; exact nI_le (Nat.le_refl _) (by omega))]
      refine ⟨0, rfl, Cl.fix hw hx ?_⟩
      refine sb_eq (fun i hi => ?_) stp_up
      rcases (bt_stp hw hx i).mp hi with q | ⟨_, j, q, _⟩
      · exact q
      · rw [bt_0] at q; cases q
    · rw [if_neg (by rw [h49]; exact nI_ge (by omega) (by omega)), ar_X0, Option.bind_some]
      by_cases hs : stp w x = x
      · rw [if_pos hs]
        exact ⟨x, rfl, Cl.fix hw hx hs⟩
      · rw [if_neg hs]
        have hlt := cnt_lt (stp_up (w := w) (x := x)) (fun e => hs e.symm)
        have hne : ¬ x = 0 := by
          rintro rfl
          apply hs
          refine sb_eq (fun i hi => ?_) stp_up
          rcases (bt_stp hw hx i).mp hi with q | ⟨_, j, q, _⟩
          · exact q
          · rw [bt_0] at q; cases q
        obtain ⟨F, h1, h2⟩ := ih (stp w x) (k + 1) (stp_sb hw hx) (by omega) (by omega) (Or.inr (by
          rcases hc with h | h
          · exact absurd h hne
          · omega))
        refine ⟨F, ?_, h2.step hw hx⟩
        rw [nI_1]; exact h1
theorem flood_X9 {w : Int64} (hw : inA w) : ∀ (n : Nat) (x y : Int64), sb x w → 50 - cnt x < n → (sb y x ∧ (x ≠ y ∨ x = 0) ∧ (x = y → x = 0)) → ∃ F, fX9_flood_8 n w x y = some F ∧ Cl x w F := by
  intro n
  induction n with
  | zero => intro x y _ h; omega
  | succ n ih =>
    intro x y hx hn hy
    have hxA := inA_sb hw hx
    rw [fX9_flood_8]
    by_cases hxy : x = y
    · rw [if_pos hxy]
      have hx0 := hy.2.2 hxy
      refine ⟨x, rfl, Cl.fix hw hx ?_⟩
      refine sb_eq (fun i hi => ?_) stp_up
      rcases (bt_stp hw hx i).mp hi with q | ⟨_, j, q, _⟩
      · exact q
      · rw [hx0, bt_0] at q; cases q
    · rw [if_neg hxy, ar_X9, Option.bind_some]
      by_cases hs : stp w x = x
      · -- one more round finds nothing new
        have hcl := Cl.fix hw hx hs
        cases n with
        | zero =>
          have := cnt_49 hxA
          omega
        | succ n =>
          rw [fX9_flood_8, if_pos hs]
          exact ⟨_, rfl, by rw [show x ||| (ar x &&& w) = x from hs]; exact hcl⟩
      · have hlt := cnt_lt (stp_up (w := w) (x := x)) (fun e => hs e.symm)
        obtain ⟨F, h1, h2⟩ := ih (stp w x) x (stp_sb hw hx) (by have := cnt_49 (inA_sb hw (stp_sb hw hx)); omega) ⟨stp_up, Or.inl hs, fun e => absurd e hs⟩
        exact ⟨F, h1, h2.step hw hx⟩
def fl (s w : Int64) : Int64 := (fX0_flood s w).getD 0
theorem and_sb_r (s w : Int64) : sb (s &&& w) w := fun i h => by rw [bt_and, Bool.and_eq_true] at h; exact h.2
theorem and_sb_l (s w : Int64) : sb (s &&& w) s := fun i h => by rw [bt_and, Bool.and_eq_true] at h; exact h.1
theorem fl_X0 {s w : Int64} (hw : inA w) : fX0_flood s w = some (fl s w) ∧ Cl (s &&& w) w (fl s w) := by
  have h0 : (0 : Int32) = nI 0 := by decide
  obtain ⟨F, h1, h2⟩ := flood_X0 hw FU (s &&& w) 0 (and_sb_r s w) (by omega) (by unfold FU; omega) (by
    by_cases h : s &&& w = 0
    · exact Or.inl h
    · exact Or.inr (cnt_pos h))
  have h3 : fX0_flood s w = some F := by unfold fX0_flood; rw [h0]; exact h1
  have h4 : fl s w = F := by unfold fl; rw [h3]; rfl
  rw [h4]
  exact ⟨h3, h2⟩
theorem fl_Cl {s w : Int64} (hw : inA w) : Cl (s &&& w) w (fl s w) := (fl_X0 hw).2
theorem fl_X9 {s w : Int64} (hw : inA w) : fX9_flood s w = some (fl s w) := by
  unfold fX9_flood
  by_cases h0 : s &&& w = 0
  · have h1 : fX9_flood_8 FU w (s &&& w) 0 = some (s &&& w) := by
      rw [show FU = 4999 + 1 from rfl, fX9_flood_8, if_pos h0]
    rw [h1]
    congr 1
    refine (Cl.fix hw (and_sb_r s w) ?_).uniq (fl_Cl hw)
    refine sb_eq (fun i hi => ?_) stp_up
    rcases (bt_stp hw (and_sb_r s w) i).mp hi with q | ⟨_, j, q, _⟩
    · exact q
    · rw [h0, bt_0] at q; cases q
  · obtain ⟨F, h1, h2⟩ := flood_X9 hw FU (s &&& w) 0 (and_sb_r s w) (by unfold FU; omega) ⟨fun i hi => by rw [bt_0] at hi; cases hi, Or.inl h0, fun e => e⟩
    rw [h1, h2.uniq (fl_Cl hw)]
