/-! PURE 2: single points, the lowest point, counting. -/
def pt (p : Nat) : Int64 := x_shl 1 (nI p)
theorem bt_1 : ∀ i, i < 64 → bt 1 i = decide (i = 0) := by decide +kernel
theorem bt_pt {p : Nat} (hp : p < 64) (i : Nat) : bt (pt p) i = decide (i = p) := by
  unfold pt
  rw [bt_shl 1 hp]
  by_cases hi : i < 64
  · rw [bt_1 (i - p) (by omega)]
    by_cases h : i = p
    · subst h; simp [hi]
    · simp [h]; omega
  · simp; omega
theorem inA_pt {p : Nat} (hp : p < 49) : inA (pt p) := fun i hi => by rw [bt_pt (by omega)]; simp; omega
theorem nat_odd : ∀ x : Nat, 0 < x → ∃ m k, x = 2 ^ m * (2 * k + 1) := by
  intro x
  induction x using Nat.strongRecOn with
  | _ x ih =>
    intro hx
    by_cases h : x % 2 = 1
    · exact ⟨0, x / 2, by omega⟩
    · obtain ⟨m, k, hk⟩ := ih (x / 2) (by omega) (by omega)
      exact ⟨m + 1, k, by rw [Nat.pow_succ]; have : x = x / 2 * 2 := by omega
                          rw [this, hk, Nat.mul_right_comm]⟩
theorem bt_nat (w : Int64) (i : Nat) : bt w i = w.toBitVec.toNat.testBit i := rfl
/-- the lowest point of a set -/
theorem low_ex {a : Int64} (h : ¬ a = 0) : ∃ m, m < 64 ∧ bt a m = true ∧ (∀ i, i < m → bt a i = false) ∧ ∀ i, i < 64 → bt (a - 1) i = (decide (i < m) || (decide (m < i) && bt a i)) := by
  have hpos : 0 < a.toBitVec.toNat := by
    refine Nat.pos_of_ne_zero fun e => h ?_
    apply Int64.toBitVec_inj.mp
    apply BitVec.eq_of_toNat_eq
    rw [e]; rfl
  obtain ⟨m, k, hk⟩ := nat_odd _ hpos
  have hlt : a.toBitVec.toNat < 2 ^ 64 := a.toBitVec.isLt
  have hm : m < 64 := by
    rcases Nat.lt_or_ge m 64 with q | q
    · exact q
    · have h1 : 2 ^ 64 ≤ 2 ^ m := Nat.pow_le_pow_right (by omega) q
      have h2 : 2 ^ m * 1 ≤ 2 ^ m * (2 * k + 1) := Nat.mul_le_mul_left _ (by omega)
      omega
  have hpm : 0 < 2 ^ m := Nat.two_pow_pos m
  have ha : ∀ i, bt a i = if i < m then false else (2 * k + 1).testBit (i - m) := fun i => by
    rw [bt_nat, hk, Nat.testBit_two_pow_mul]
    by_cases q : i < m
    · simp [q]
    · simp [q]; omega
  have hodd : ∀ j, (2 * k + 1).testBit j = if j = 0 then true else k.testBit (j - 1) := fun j => by
    cases j with
    | zero => simp [Nat.testBit_zero]
    | succ j => simp [Nat.testBit_succ]; congr 1; omega
  have hev : ∀ j, (2 * k).testBit j = if j = 0 then false else k.testBit (j - 1) := fun j => by
    cases j with
    | zero => simp [Nat.testBit_zero]
    | succ j => simp [Nat.testBit_succ]
  have hs : (a - 1).toBitVec.toNat = 2 ^ m * (2 * k) + (2 ^ m - 1) := by
    rw [Int64.toBitVec_sub, BitVec.toNat_sub, hk]
    have h1 : (1 : Int64).toBitVec.toNat = 1 := by decide
    rw [h1]
    have h2 : 2 ^ m * (2 * k + 1) = 2 ^ m * (2 * k) + 2 ^ m := by rw [Nat.mul_add, Nat.mul_one]
    rw [hk] at hlt
    rw [h2] at hlt ⊢
    generalize 2 ^ m * (2 * k) = z at hlt ⊢
    generalize 2 ^ m = y at hlt hpm ⊢
    omega
  refine ⟨m, hm, ?_, ?_, ?_⟩
  · rw [ha]; simp [hodd]
  · intro i hi; rw [ha]; simp [hi]
  · intro i _
    rw [bt_nat, hs, Nat.testBit_two_pow_mul_add _ (by omega), ha]
    by_cases q : i < m
    · simp [q, Nat.testBit_two_pow_sub_one]
    · rw [if_neg q, if_neg q, hev, hodd]
      by_cases q2 : i = m
      · subst q2; simp
      · have : i - m ≠ 0 := by omega
        have h3 : m < i := by omega
        simp [this, q, h3]
theorem neg_not (a : Int64) : -a = (a - 1) ^^^ (-1) := by
  apply Int64.toBitVec_inj.mp
  rw [Int64.toBitVec_neg, Int64.toBitVec_xor, Int64.toBitVec_sub]
  have h1 : (-1 : Int64).toBitVec = BitVec.allOnes 64 := by decide
  have h2 : (1 : Int64).toBitVec = 1#64 := by decide
  rw [h1, h2, BitVec.xor_allOnes, ← BitVec.not_neg, BitVec.not_not]
theorem low_1 {a : Int64} {m : Nat} (hm : m < 64) (h1 : bt a m = true) (h2 : ∀ i, i < m → bt a i = false) (h3 : ∀ i, i < 64 → bt (a - 1) i = (decide (i < m) || (decide (m < i) && bt a i))) : a &&& (-a) = pt m := by
  refine bt_ext fun i hi => ?_
  rw [neg_not, bt_and, bt_not, bt_pt hm, h3 i hi]
  by_cases q : i = m
  · subst q; simp [h1, hi]
  · by_cases q2 : i < m
    · simp [h2 i q2, q]
    · have : m < i := by omega
      cases hb : bt a i <;> simp [this, q, q2]
theorem low_2 {a : Int64} {m : Nat} (hm : m < 64) (h1 : bt a m = true) (h2 : ∀ i, i < m → bt a i = false) (h3 : ∀ i, i < 64 → bt (a - 1) i = (decide (i < m) || (decide (m < i) && bt a i))) (i : Nat) : bt (a &&& (a - 1)) i = (bt a i && decide (i ≠ m)) := by
  rw [bt_and]
  by_cases hi : i < 64
  · rw [h3 i hi]
    by_cases q : i = m
    · subst q; simp
    · by_cases q2 : i < m
      · simp [h2 i q2]
      · have : m < i := by omega
        cases hb : bt a i <;> simp [this, q]
  · rw [bt_big (w := a) (by omega)]; rfl
theorem cnt_del {a b : Int64} {m : Nat} (hm : m < 64) (h1 : bt a m = true) (h2 : ∀ i, i < 64 → bt b i = (bt a i && decide (i ≠ m))) : cnt a = cnt b + 1 := by
  have key : ∀ l : List Nat, l.Nodup → (∀ x ∈ l, x < 64) → l.countP (bt a) = l.countP (bt b) + if m ∈ l then 1 else 0 := by
    intro l
    induction l with
    | nil => intro _ _; rfl
    | cons x t ih =>
      intro hnd hx
      have hnd' := List.nodup_cons.mp hnd
      rw [List.countP_cons, List.countP_cons, ih hnd'.2 (fun y hy => hx y (List.mem_cons_of_mem _ hy)), h2 x (hx x List.mem_cons_self)]
      by_cases q : x = m
      · subst q
        simp [h1, hnd'.1]
      · have q' : ¬ m = x := fun e => q e.symm
        simp [q, q', List.mem_cons]
        omega
  unfold cnt
  rw [key _ List.nodup_range (fun x hx => List.mem_range.mp hx), if_pos (List.mem_range.mpr hm)]
theorem bits_loop : ∀ (n : Nat) (a : Int64) (k : Nat), cnt a < n → fX9_bits_4 n (nI k) a = some (nI (k + cnt a)) := by
  intro n
  induction n with
  | zero => intro a k h; omega
  | succ n ih =>
    intro a k h
    rw [fX9_bits_4]
    by_cases h0 : a = 0
    · subst h0; rw [if_pos rfl, cnt_0]; rfl
    · rw [if_neg h0]
      obtain ⟨m, hm, h1, h2, h3⟩ := low_ex h0
      have hc := cnt_del hm h1 (b := a &&& (a - 1)) (fun i _ => low_2 hm h1 h2 h3 i)
      rw [nI_1, ih _ _ (by omega), hc]
      congr 2
      omega
theorem cnt_64 (a : Int64) : cnt a ≤ 64 := by
  have := List.countP_le_length (p := bt a) (l := List.range 64)
  simpa [cnt] using this
theorem bits_X9 (a : Int64) : fX9_bits a = some (nI (cnt a)) := by
  have h := bits_loop FU a 0 (by have := cnt_64 a; unfold FU; omega)
  rw [Nat.zero_add] at h
  unfold fX9_bits
  rw [show (0 : Int32) = nI 0 by decide]; exact h
theorem cnt_lowmask : ∀ m, m < 64 → cnt (pt m - 1) = m := by decide +kernel
theorem lowest_X9 {a : Int64} {m : Nat} (hm : m < 64) (h1 : bt a m = true) (h2 : ∀ i, i < m → bt a i = false) (h3 : ∀ i, i < 64 → bt (a - 1) i = (decide (i < m) || (decide (m < i) && bt a i))) : fX9_lowest a = some (nI m) := by
  unfold fX9_lowest
  rw [low_1 hm h1 h2 h3, bits_X9, cnt_lowmask m hm]; rfl
theorem bit_X9 (p : Nat) : fX9_bit (nI p) = some (pt p) := rfl
/-! chains -/
theorem fl_in {p : Nat} {w : Int64} (hw : inA w) (hp : bt w p = true) : bt (fl (pt p) w) p = true := by
  have h9 : p < 49 := by
    rcases Nat.lt_or_ge p 49 with q | q
    · exact q
    · rw [hw p q] at hp; cases hp
  exact (fl_Cl hw).1 p (by rw [bt_and, hp, bt_pt (by omega)]; simp)
theorem fl_sb {s w : Int64} (hw : inA w) : sb (fl s w) w := (fl_Cl hw).2.1
theorem inA_fl {s w : Int64} (hw : inA w) : inA (fl s w) := inA_sb hw (fl_sb hw)
theorem fl_cl {s w : Int64} (hw : inA w) {i j : Nat} (hj : bt (fl s w) j = true) (hn : nb i j = true) (hi : bt w i = true) : bt (fl s w) i = true := (fl_Cl hw).2.2.1 i j hj hn hi
theorem fl_ind {s w : Int64} (hw : inA w) (T : Nat → Prop) (h1 : ∀ i, bt s i = true → bt w i = true → T i) (h2 : ∀ i j, T j → nb i j = true → bt w i = true → T i) : ∀ i, bt (fl s w) i = true → T i :=
  (fl_Cl hw).2.2.2 T (fun i hi => by rw [bt_and, Bool.and_eq_true] at hi; exact h1 i hi.1 hi.2) h2
theorem lt49 {w : Int64} (hw : inA w) {i : Nat} (h : bt w i = true) : i < 49 := by
  rcases Nat.lt_or_ge i 49 with q | q
  · exact q
  · rw [hw i q] at h; cases h
theorem fl_pt_sub {s w : Int64} (hw : inA w) {p : Nat} (hp : bt s p = true) (hpw : bt w p = true) : sb (fl (pt p) w) (fl s w) :=
  fl_ind hw (fun i => bt (fl s w) i = true) (fun i hi _ => by
    have hp9 := lt49 hw hpw
    rw [bt_pt (by omega)] at hi
    simp at hi
    subst hi
    exact (fl_Cl hw).1 i (by rw [bt_and, hp, hpw]; rfl)) (fun i j hj hn hi => fl_cl hw hj hn hi)
theorem fl_un {s w : Int64} (hw : inA w) {i : Nat} : bt (fl s w) i = true ↔ ∃ p, bt s p = true ∧ bt w p = true ∧ bt (fl (pt p) w) i = true := by
  constructor
  · refine fl_ind hw (fun i => ∃ p, bt s p = true ∧ bt w p = true ∧ bt (fl (pt p) w) i = true) (fun i h1 h2 => ⟨i, h1, h2, fl_in hw h2⟩) ?_ i
    rintro i j ⟨p, a, b, c⟩ hn hi
    exact ⟨p, a, b, fl_cl hw c hn hi⟩
  · rintro ⟨p, a, b, c⟩
    exact fl_pt_sub hw a b i c
/-- a chain is the chain of each of its points -/
theorem fl_back {w : Int64} (hw : inA w) {p q : Nat} (hp : bt w p = true) (hq : bt (fl (pt p) w) q = true) : bt (fl (pt q) w) p = true := by
  have hqw := fl_sb hw q hq
  refine Classical.byContradiction fun hc => ?_
  have h1 := fl_ind (s := pt p) hw (fun i => bt (fl (pt p) w) i = true ∧ ¬ bt (fl (pt q) w) i = true) (fun i hi hiw => by
    have hp9 := lt49 hw hp
    rw [bt_pt (by omega)] at hi
    simp at hi
    subst hi
    exact ⟨fl_in hw hiw, hc⟩) (fun i j hj hn hi => ⟨fl_cl hw hj.1 hn hi, fun hz => hj.2 (fl_cl hw hz (by rw [nb_sym]; exact hn) (fl_sb hw j hj.1))⟩) q hq
  exact h1.2 (fl_in hw hqw)
theorem fl_same {w : Int64} (hw : inA w) {p q : Nat} (hp : bt w p = true) (hq : bt (fl (pt p) w) q = true) : fl (pt q) w = fl (pt p) w := by
  have hqw := fl_sb hw q hq
  have hb := fl_back hw hp hq
  refine sb_eq ?_ ?_
  · intro i hi
    refine fl_ind (s := pt q) hw (fun i => bt (fl (pt p) w) i = true) (fun i h1 _ => ?_) (fun i j hj hn hi => fl_cl hw hj hn hi) i hi
    have hq9 := lt49 hw hqw
    rw [bt_pt (by omega)] at h1
    simp at h1
    subst h1; exact hq
  · intro i hi
    refine fl_ind (s := pt p) hw (fun i => bt (fl (pt q) w) i = true) (fun i h1 _ => ?_) (fun i j hj hn hi => fl_cl hw hj hn hi) i hi
    have hp9 := lt49 hw hp
    rw [bt_pt (by omega)] at h1
    simp at h1
    subst h1; exact hb
