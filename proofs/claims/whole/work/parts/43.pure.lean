/-! PURE 4: Long.bitCount counts the points. -/
def byt (n i : Nat) : Nat := n / 2 ^ (8 * i) % 256
theorem byt_lt (n i : Nat) : byt n i < 256 := Nat.mod_lt _ (by omega)
theorem byt_tb (n i j : Nat) : (byt n i).testBit j = (decide (j < 8) && n.testBit (8 * i + j)) := by
  unfold byt
  rw [show (256 : Nat) = 2 ^ 8 by rfl, Nat.testBit_mod_two_pow, Nat.testBit_div_two_pow]
theorem byt_shm {n s M m i : Nat} (hM : byt M i = m) (hm : m < 2 ^ (8 - s)) (hs : s < 8) : byt ((n >>> s) &&& M) i = (byt n i >>> s) &&& m := by
  apply Nat.eq_of_testBit_eq
  intro j
  rw [byt_tb, Nat.testBit_and, Nat.testBit_and, Nat.testBit_shiftRight, Nat.testBit_shiftRight, byt_tb, ← hM, byt_tb]
  by_cases hj : j < 8
  · by_cases hj2 : s + j < 8
    · simp [hj, hj2]; rw [show s + (8 * i + j) = 8 * i + (s + j) by omega]
    · have h1 : m.testBit j = false := Nat.testBit_lt_two_pow (Nat.lt_of_lt_of_le hm (Nat.pow_le_pow_right (by omega) (by omega)))
      rw [← hM, byt_tb] at h1
      simp [hj] at h1
      simp [hj, hj2, h1]
  · simp [hj]
def s8 (c0 c1 c2 c3 c4 c5 c6 c7 : Nat) : Nat := c0 + 256 * (c1 + 256 * (c2 + 256 * (c3 + 256 * (c4 + 256 * (c5 + 256 * (c6 + 256 * c7))))))
theorem s8_of {n : Nat} (h : n < 2 ^ 64) : n = s8 (byt n 0) (byt n 1) (byt n 2) (byt n 3) (byt n 4) (byt n 5) (byt n 6) (byt n 7) := by
  unfold s8 byt
  have e : ∀ k, n / 2 ^ (8 * k) = n / 2 ^ (8 * k) % 256 + 256 * (n / 2 ^ (8 * (k + 1))) := fun k => by
    rw [show 8 * (k + 1) = 8 * k + 8 by omega, Nat.pow_add, ← Nat.div_div_eq_div_mul]
    omega
  have h0 := e 0; have h1 := e 1; have h2 := e 2; have h3 := e 3; have h4 := e 4; have h5 := e 5; have h6 := e 6; have h7 := e 7
  have h8 : n / 2 ^ (8 * (7 + 1)) = 0 := Nat.div_eq_of_lt h
  rw [h8] at h7
  simp only [Nat.mul_zero, Nat.pow_zero, Nat.div_one] at h0 ⊢
  simp only [Nat.reduceAdd] at h0 h1 h2 h3 h4 h5 h6 h7 ⊢
  omega
theorem byt_s8 {c0 c1 c2 c3 c4 c5 c6 c7 : Nat} (h0 : c0 < 256) (h1 : c1 < 256) (h2 : c2 < 256) (h3 : c3 < 256) (h4 : c4 < 256) (h5 : c5 < 256) (h6 : c6 < 256) (h7 : c7 < 256) :
    byt (s8 c0 c1 c2 c3 c4 c5 c6 c7) 0 = c0 ∧ byt (s8 c0 c1 c2 c3 c4 c5 c6 c7) 1 = c1 ∧ byt (s8 c0 c1 c2 c3 c4 c5 c6 c7) 2 = c2 ∧ byt (s8 c0 c1 c2 c3 c4 c5 c6 c7) 3 = c3 ∧ byt (s8 c0 c1 c2 c3 c4 c5 c6 c7) 4 = c4 ∧ byt (s8 c0 c1 c2 c3 c4 c5 c6 c7) 5 = c5 ∧ byt (s8 c0 c1 c2 c3 c4 c5 c6 c7) 6 = c6 ∧ byt (s8 c0 c1 c2 c3 c4 c5 c6 c7) 7 = c7 := by
  have d : ∀ c r k : Nat, c < 256 → (c + 256 * r) / 2 ^ (8 * (k + 1)) = r / 2 ^ (8 * k) := fun c r k hc => by
    rw [show 8 * (k + 1) = 8 + 8 * k by omega, Nat.pow_add, ← Nat.div_div_eq_div_mul]
    congr 1
    omega
  unfold s8 byt
  refine ⟨?_, ?_, ?_, ?_, ?_, ?_, ?_, ?_⟩
  · simp only [Nat.mul_zero, Nat.pow_zero, Nat.div_one]; omega
  · rw [d _ _ 0 h0]; simp only [Nat.mul_zero, Nat.pow_zero, Nat.div_one]; omega
  · rw [d _ _ 1 h0, d _ _ 0 h1]; simp only [Nat.mul_zero, Nat.pow_zero, Nat.div_one]; omega
  · rw [d _ _ 2 h0, d _ _ 1 h1, d _ _ 0 h2]; simp only [Nat.mul_zero, Nat.pow_zero, Nat.div_one]; omega
  · rw [d _ _ 3 h0, d _ _ 2 h1, d _ _ 1 h2, d _ _ 0 h3]; simp only [Nat.mul_zero, Nat.pow_zero, Nat.div_one]; omega
  · rw [d _ _ 4 h0, d _ _ 3 h1, d _ _ 2 h2, d _ _ 1 h3, d _ _ 0 h4]; simp only [Nat.mul_zero, Nat.pow_zero, Nat.div_one]; omega
  · rw [d _ _ 5 h0, d _ _ 4 h1, d _ _ 3 h2, d _ _ 2 h3, d _ _ 1 h4, d _ _ 0 h5]; simp only [Nat.mul_zero, Nat.pow_zero, Nat.div_one]; omega
  · rw [d _ _ 6 h0, d _ _ 5 h1, d _ _ 4 h2, d _ _ 3 h3, d _ _ 2 h4, d _ _ 1 h5, d _ _ 0 h6]; simp only [Nat.mul_zero, Nat.pow_zero, Nat.div_one]; omega
def un (x : Int64) : Nat := x.toBitVec.toNat
theorem un_lt (x : Int64) : un x < 2 ^ 64 := x.toBitVec.isLt
theorem un_and (a b : Int64) : un (a &&& b) = un a &&& un b := by unfold un; rw [Int64.toBitVec_and, BitVec.toNat_and]
theorem un_ushr (a : Int64) {n : Nat} (hn : n < 64) : un (x_ushr a (nI n)) = un a >>> n := by
  apply Nat.eq_of_testBit_eq
  intro i
  have h := bt_ushr a hn i
  rw [bt_nat, bt_nat] at h
  unfold un
  rw [h, Nat.testBit_shiftRight]
theorem un_sub {a b : Int64} (h : un b ≤ un a) : un (a - b) = un a - un b := by
  have h1 := un_lt a
  have h2 := un_lt b
  unfold un at *
  rw [Int64.toBitVec_sub, BitVec.toNat_sub]
  omega
theorem un_add {a b : Int64} (h : un a + un b < 2 ^ 64) : un (a + b) = un a + un b := by
  unfold un at *
  rw [Int64.toBitVec_add, BitVec.toNat_add, Nat.mod_eq_of_lt h]
def bf1 (b : Nat) : Nat := b - ((b >>> 1) &&& 85)
def bf2 (b : Nat) : Nat := (b &&& 51) + ((b >>> 2) &&& 51)
def bf3 (b : Nat) : Nat := b % 16 + b / 16
def pc8 (b : Nat) : Nat := (List.range 8).countP (b.testBit ·)
theorem bf_all : ∀ b, b < 256 → (b >>> 1) &&& 85 ≤ b ∧ bf2 (bf1 b) % 16 ≤ 4 ∧ bf2 (bf1 b) / 16 ≤ 4 ∧ bf3 (bf2 (bf1 b)) = pc8 b := by decide +kernel
theorem byt_5 : ∀ i, i < 8 → byt 6148914691236517205 i = 85 := by decide +kernel
theorem byt_3 : ∀ i, i < 8 → byt 3689348814741910323 i = 51 := by decide +kernel
theorem byt_15 : ∀ i, i < 8 → byt 1085102592571150095 i = 15 := by decide +kernel
theorem un_c5 : un 6148914691236517205 = 6148914691236517205 := by decide +kernel
theorem un_c3 : un 3689348814741910323 = 3689348814741910323 := by decide +kernel
theorem un_c15 : un 1085102592571150095 = 1085102592571150095 := by decide +kernel
theorem cnt_bytes (x : Int64) : cnt x = pc8 (byt (un x) 0) + pc8 (byt (un x) 1) + pc8 (byt (un x) 2) + pc8 (byt (un x) 3) + pc8 (byt (un x) 4) + pc8 (byt (un x) 5) + pc8 (byt (un x) 6) + pc8 (byt (un x) 7) := by
  have hr : List.range 64 = (List.range 8).map (8 * 0 + ·) ++ ((List.range 8).map (8 * 1 + ·) ++ ((List.range 8).map (8 * 2 + ·) ++ ((List.range 8).map (8 * 3 + ·) ++ ((List.range 8).map (8 * 4 + ·) ++ ((List.range 8).map (8 * 5 + ·) ++ ((List.range 8).map (8 * 6 + ·) ++ (List.range 8).map (8 * 7 + ·))))))) := by decide +kernel
  have hp : ∀ i, ((List.range 8).map (8 * i + ·)).countP (bt x) = pc8 (byt (un x) i) := fun i => by
    rw [List.countP_map]
    unfold pc8
    apply List.countP_congr
    intro j hj
    rw [byt_tb]
    have := List.mem_range.mp hj
    simp [this, bt_nat, un]
  unfold cnt
  rw [hr]
  simp only [List.countP_append, hp]
  omega
theorem step8 {n y : Nat} {f : Nat → Nat} (hn : n < 2 ^ 64) (hy : y = s8 (f (byt n 0)) (f (byt n 1)) (f (byt n 2)) (f (byt n 3)) (f (byt n 4)) (f (byt n 5)) (f (byt n 6)) (f (byt n 7))) (hf : ∀ b, b < 256 → f b < 256) : ∀ i, i < 8 → byt y i = f (byt n i) := by
  have h := byt_s8 (hf _ (byt_lt n 0)) (hf _ (byt_lt n 1)) (hf _ (byt_lt n 2)) (hf _ (byt_lt n 3)) (hf _ (byt_lt n 4)) (hf _ (byt_lt n 5)) (hf _ (byt_lt n 6)) (hf _ (byt_lt n 7))
  rw [← hy] at h
  intro i hi
  match i, hi with
  | 0, _ => exact h.1
  | 1, _ => exact h.2.1
  | 2, _ => exact h.2.2.1
  | 3, _ => exact h.2.2.2.1
  | 4, _ => exact h.2.2.2.2.1
  | 5, _ => exact h.2.2.2.2.2.1
  | 6, _ => exact h.2.2.2.2.2.2.1
  | 7, _ => exact h.2.2.2.2.2.2.2
  | n + 8, hi => omega
theorem bf1_lt : ∀ b, b < 256 → bf1 b < 256 := fun b h => by unfold bf1; omega
theorem bf2_lt : ∀ b, b < 256 → bf2 b < 256 := by decide +kernel
theorem mask8 {n y s m : Nat} {M : Nat} (hy : y = (n >>> s) &&& M) (hyl : y < 2 ^ 64) (hM : ∀ i, i < 8 → byt M i = m) (hm : m < 2 ^ (8 - s)) (hs : s < 8) : y = s8 ((byt n 0 >>> s) &&& m) ((byt n 1 >>> s) &&& m) ((byt n 2 >>> s) &&& m) ((byt n 3 >>> s) &&& m) ((byt n 4 >>> s) &&& m) ((byt n 5 >>> s) &&& m) ((byt n 6 >>> s) &&& m) ((byt n 7 >>> s) &&& m) := by
  have e := s8_of hyl
  have k : ∀ i, i < 8 → byt y i = (byt n i >>> s) &&& m := fun i hi => by rw [hy]; exact byt_shm (hM i hi) hm hs
  rw [k 0 (by omega), k 1 (by omega), k 2 (by omega), k 3 (by omega), k 4 (by omega), k 5 (by omega), k 6 (by omega), k 7 (by omega)] at e
  exact e
theorem bitCount_J (x : Int64) : fJ_bitCount x = some (nI (cnt x)) := by
  have hb := fun i => byt_lt (un x) i
  -- step 1
  obtain ⟨v1, hv1⟩ : ∃ v, v = x - ((x_ushr x (1 : Int32)) &&& (6148914691236517205 : Int64)) := ⟨_, rfl⟩
  have hy1 : un ((x_ushr x (1 : Int32)) &&& (6148914691236517205 : Int64)) = (un x >>> 1) &&& 6148914691236517205 := by
    rw [un_and, un_c5, show (1 : Int32) = nI 1 by decide, un_ushr x (by omega)]
  have hm1 := mask8 hy1 (un_lt _) byt_5 (by decide) (by decide)
  have hx := s8_of (un_lt x)
  have a0 := (bf_all _ (hb 0)).1; have a1 := (bf_all _ (hb 1)).1; have a2 := (bf_all _ (hb 2)).1; have a3 := (bf_all _ (hb 3)).1; have a4 := (bf_all _ (hb 4)).1; have a5 := (bf_all _ (hb 5)).1; have a6 := (bf_all _ (hb 6)).1; have a7 := (bf_all _ (hb 7)).1
  have hle : un ((x_ushr x (1 : Int32)) &&& (6148914691236517205 : Int64)) ≤ un x := by
    rw [hm1]; generalize hz : un x = z at *; rw [hx]; unfold s8; omega
  have hu1 : un v1 = s8 (bf1 (byt (un x) 0)) (bf1 (byt (un x) 1)) (bf1 (byt (un x) 2)) (bf1 (byt (un x) 3)) (bf1 (byt (un x) 4)) (bf1 (byt (un x) 5)) (bf1 (byt (un x) 6)) (bf1 (byt (un x) 7)) := by
    rw [hv1, un_sub hle, hm1]
    have e : ∀ z, z = un x → z - s8 ((byt (un x) 0 >>> 1) &&& 85) ((byt (un x) 1 >>> 1) &&& 85) ((byt (un x) 2 >>> 1) &&& 85) ((byt (un x) 3 >>> 1) &&& 85) ((byt (un x) 4 >>> 1) &&& 85) ((byt (un x) 5 >>> 1) &&& 85) ((byt (un x) 6 >>> 1) &&& 85) ((byt (un x) 7 >>> 1) &&& 85) = s8 (bf1 (byt (un x) 0)) (bf1 (byt (un x) 1)) (bf1 (byt (un x) 2)) (bf1 (byt (un x) 3)) (bf1 (byt (un x) 4)) (bf1 (byt (un x) 5)) (bf1 (byt (un x) 6)) (bf1 (byt (un x) 7)) := by
      intro z hz
      rw [← hz] at hx
      rw [hx, ← hz] 
      unfold s8 bf1
      rw [hz]
      omega
    exact e _ rfl
  have hB1 := step8 (un_lt x) hu1 bf1_lt
  -- step 2
  obtain ⟨v2, hv2⟩ : ∃ v, v = (v1 &&& (3689348814741910323 : Int64)) + ((x_ushr v1 (2 : Int32)) &&& (3689348814741910323 : Int64)) := ⟨_, rfl⟩
  have hya : un (v1 &&& (3689348814741910323 : Int64)) = (un v1 >>> 0) &&& 3689348814741910323 := by rw [un_and, un_c3]; rfl
  have hyb : un ((x_ushr v1 (2 : Int32)) &&& (3689348814741910323 : Int64)) = (un v1 >>> 2) &&& 3689348814741910323 := by
    rw [un_and, un_c3, show (2 : Int32) = nI 2 by decide, un_ushr v1 (by omega)]
  have hma := mask8 hya (un_lt _) byt_3 (by decide) (by decide)
  have hmb := mask8 hyb (un_lt _) byt_3 (by decide) (by decide)
  have hand : ∀ y : Nat, y &&& 51 ≤ 51 := fun y => Nat.and_le_right
  have hsum : un (v1 &&& (3689348814741910323 : Int64)) + un ((x_ushr v1 (2 : Int32)) &&& (3689348814741910323 : Int64)) = s8 (bf2 (byt (un v1) 0)) (bf2 (byt (un v1) 1)) (bf2 (byt (un v1) 2)) (bf2 (byt (un v1) 3)) (bf2 (byt (un v1) 4)) (bf2 (byt (un v1) 5)) (bf2 (byt (un v1) 6)) (bf2 (byt (un v1) 7)) := by
    rw [hma, hmb]; unfold s8 bf2; simp only [Nat.shiftRight_zero]; omega
  have b0 := bf2_lt _ (byt_lt (un v1) 0); have b1 := bf2_lt _ (byt_lt (un v1) 1); have b2 := bf2_lt _ (byt_lt (un v1) 2); have b3 := bf2_lt _ (byt_lt (un v1) 3); have b4 := bf2_lt _ (byt_lt (un v1) 4); have b5 := bf2_lt _ (byt_lt (un v1) 5); have b6 := bf2_lt _ (byt_lt (un v1) 6); have b7 := bf2_lt _ (byt_lt (un v1) 7)
  have hu2 : un v2 = s8 (bf2 (byt (un v1) 0)) (bf2 (byt (un v1) 1)) (bf2 (byt (un v1) 2)) (bf2 (byt (un v1) 3)) (bf2 (byt (un v1) 4)) (bf2 (byt (un v1) 5)) (bf2 (byt (un v1) 6)) (bf2 (byt (un v1) 7)) := by
    rw [hv2, un_add (by rw [hsum]; unfold s8; omega), hsum]
  rw [hB1 0 (by omega), hB1 1 (by omega), hB1 2 (by omega), hB1 3 (by omega), hB1 4 (by omega), hB1 5 (by omega), hB1 6 (by omega), hB1 7 (by omega)] at hu2
  -- step 3
  have g0 := (bf_all _ (hb 0)).2; have g1 := (bf_all _ (hb 1)).2; have g2 := (bf_all _ (hb 2)).2; have g3 := (bf_all _ (hb 3)).2; have g4 := (bf_all _ (hb 4)).2; have g5 := (bf_all _ (hb 5)).2; have g6 := (bf_all _ (hb 6)).2; have g7 := (bf_all _ (hb 7)).2
  rw [cnt_bytes, ← g0.2.2, ← g1.2.2, ← g2.2.2, ← g3.2.2, ← g4.2.2, ← g5.2.2, ← g6.2.2, ← g7.2.2]
  generalize bf2 (bf1 (byt (un x) 0)) = d0 at *; generalize bf2 (bf1 (byt (un x) 1)) = d1 at *; generalize bf2 (bf1 (byt (un x) 2)) = d2 at *; generalize bf2 (bf1 (byt (un x) 3)) = d3 at *
  generalize bf2 (bf1 (byt (un x) 4)) = d4 at *; generalize bf2 (bf1 (byt (un x) 5)) = d5 at *; generalize bf2 (bf1 (byt (un x) 6)) = d6 at *; generalize bf2 (bf1 (byt (un x) 7)) = d7 at *
  obtain ⟨v3, hv3⟩ : ∃ v, v = (v2 + (x_ushr v2 (4 : Int32))) &&& (1085102592571150095 : Int64) := ⟨_, rfl⟩
  have hs4 : un (x_ushr v2 (4 : Int32)) = un v2 / 16 := by rw [show (4 : Int32) = nI 4 by decide, un_ushr v2 (by omega), Nat.shiftRight_eq_div_pow]
  unfold bf3 at *
  have hadd : un (v2 + (x_ushr v2 (4 : Int32))) = s8 (d0 % 16 + d0 / 16 + 16 * (d0 / 16 + d1 % 16)) (d1 % 16 + d1 / 16 + 16 * (d1 / 16 + d2 % 16)) (d2 % 16 + d2 / 16 + 16 * (d2 / 16 + d3 % 16)) (d3 % 16 + d3 / 16 + 16 * (d3 / 16 + d4 % 16)) (d4 % 16 + d4 / 16 + 16 * (d4 / 16 + d5 % 16)) (d5 % 16 + d5 / 16 + 16 * (d5 / 16 + d6 % 16)) (d6 % 16 + d6 / 16 + 16 * (d6 / 16 + d7 % 16)) (d7 % 16 + d7 / 16 + 16 * (d7 / 16)) := by
    have hq : un v2 / 16 = s8 (d0 / 16 + 16 * (d1 % 16)) (d1 / 16 + 16 * (d2 % 16)) (d2 / 16 + 16 * (d3 % 16)) (d3 / 16 + 16 * (d4 % 16)) (d4 / 16 + 16 * (d5 % 16)) (d5 / 16 + 16 * (d6 % 16)) (d6 / 16 + 16 * (d7 % 16)) (d7 / 16) := by
      rw [hu2]; unfold s8; omega
    rw [un_add (by rw [hs4, hq, hu2]; unfold s8; omega), hs4, hq, hu2]; unfold s8; omega
  have hB3 := byt_s8 (c0 := d0 % 16 + d0 / 16 + 16 * (d0 / 16 + d1 % 16)) (c1 := d1 % 16 + d1 / 16 + 16 * (d1 / 16 + d2 % 16)) (c2 := d2 % 16 + d2 / 16 + 16 * (d2 / 16 + d3 % 16)) (c3 := d3 % 16 + d3 / 16 + 16 * (d3 / 16 + d4 % 16)) (c4 := d4 % 16 + d4 / 16 + 16 * (d4 / 16 + d5 % 16)) (c5 := d5 % 16 + d5 / 16 + 16 * (d5 / 16 + d6 % 16)) (c6 := d6 % 16 + d6 / 16 + 16 * (d6 / 16 + d7 % 16)) (c7 := d7 % 16 + d7 / 16 + 16 * (d7 / 16)) (by omega) (by omega) (by omega) (by omega) (by omega) (by omega) (by omega) (by omega)
  rw [← hadd] at hB3
  have hyc : un v3 = (un (v2 + (x_ushr v2 (4 : Int32))) >>> 0) &&& 1085102592571150095 := by rw [hv3, un_and, un_c15]; rfl
  have hmc := mask8 hyc (un_lt _) byt_15 (by decide) (by decide)
  have h15 : ∀ y : Nat, y &&& 15 = y % 16 := fun y => Nat.and_two_pow_sub_one_eq_mod y 4
  rw [hB3.1, hB3.2.1, hB3.2.2.1, hB3.2.2.2.1, hB3.2.2.2.2.1, hB3.2.2.2.2.2.1, hB3.2.2.2.2.2.2.1, hB3.2.2.2.2.2.2.2] at hmc
  simp only [Nat.shiftRight_zero, h15] at hmc
  have m16 : ∀ e r : Nat, e ≤ 8 → (e + 16 * r) % 16 = e := fun e r h => by omega
  rw [m16 _ _ (by omega), m16 _ _ (by omega), m16 _ _ (by omega), m16 _ _ (by omega), m16 _ _ (by omega), m16 _ _ (by omega), m16 _ _ (by omega), m16 _ _ (by omega)] at hmc
  have e0 : d0 % 16 + d0 / 16 ≤ 8 := by omega
  have e1 : d1 % 16 + d1 / 16 ≤ 8 := by omega
  have e2 : d2 % 16 + d2 / 16 ≤ 8 := by omega
  have e3 : d3 % 16 + d3 / 16 ≤ 8 := by omega
  have e4 : d4 % 16 + d4 / 16 ≤ 8 := by omega
  have e5 : d5 % 16 + d5 / 16 ≤ 8 := by omega
  have e6 : d6 % 16 + d6 / 16 ≤ 8 := by omega
  have e7 : d7 % 16 + d7 / 16 ≤ 8 := by omega
  generalize d0 % 16 + d0 / 16 = c0 at *; generalize d1 % 16 + d1 / 16 = c1 at *; generalize d2 % 16 + d2 / 16 = c2 at *; generalize d3 % 16 + d3 / 16 = c3 at *
  generalize d4 % 16 + d4 / 16 = c4 at *; generalize d5 % 16 + d5 / 16 = c5 at *; generalize d6 % 16 + d6 / 16 = c6 at *; generalize d7 % 16 + d7 / 16 = c7 at *
  -- the end
  obtain ⟨v4, hv4⟩ : ∃ v, v = v3 + (x_ushr v3 (8 : Int32)) := ⟨_, rfl⟩
  obtain ⟨v5, hv5⟩ : ∃ v, v = v4 + (x_ushr v4 (16 : Int32)) := ⟨_, rfl⟩
  obtain ⟨v6, hv6⟩ : ∃ v, v = v5 + (x_ushr v5 (32 : Int32)) := ⟨_, rfl⟩
  have hd4 : un (x_ushr v3 (8 : Int32)) = un v3 / 256 := by rw [show (8 : Int32) = nI 8 by decide, un_ushr v3 (by omega), Nat.shiftRight_eq_div_pow]
  have hd5 : un (x_ushr v4 (16 : Int32)) = un v4 / 65536 := by rw [show (16 : Int32) = nI 16 by decide, un_ushr v4 (by omega), Nat.shiftRight_eq_div_pow]
  have hd6 : un (x_ushr v5 (32 : Int32)) = un v5 / 4294967296 := by rw [show (32 : Int32) = nI 32 by decide, un_ushr v5 (by omega), Nat.shiftRight_eq_div_pow]
  have hu4 : un v4 = s8 (c0 + c1) (c1 + c2) (c2 + c3) (c3 + c4) (c4 + c5) (c5 + c6) (c6 + c7) c7 := by
    have hq : un v3 / 256 = s8 c1 c2 c3 c4 c5 c6 c7 0 := by rw [hmc]; unfold s8; omega
    rw [hv4, un_add (by rw [hd4, hq, hmc]; unfold s8; omega), hd4, hq, hmc]; unfold s8; omega
  have hu5 : un v5 = s8 (c0 + c1 + c2 + c3) (c1 + c2 + c3 + c4) (c2 + c3 + c4 + c5) (c3 + c4 + c5 + c6) (c4 + c5 + c6 + c7) (c5 + c6 + c7) (c6 + c7) c7 := by
    have hq : un v4 / 65536 = s8 (c2 + c3) (c3 + c4) (c4 + c5) (c5 + c6) (c6 + c7) c7 0 0 := by rw [hu4]; unfold s8; omega
    rw [hv5, un_add (by rw [hd5, hq, hu4]; unfold s8; omega), hd5, hq, hu4]; unfold s8; omega
  have hu6 : un v6 % 256 = c0 + c1 + c2 + c3 + c4 + c5 + c6 + c7 := by
    have hq : un v5 / 4294967296 = s8 (c4 + c5 + c6 + c7) (c5 + c6 + c7) (c6 + c7) c7 0 0 0 0 := by rw [hu5]; unfold s8; omega
    rw [hv6, un_add (by rw [hd6, hq, hu5]; unfold s8; omega), hd6, hq, hu5]; unfold s8; omega
  have hfin : v6.toInt32 &&& (127 : Int32) = nI (c0 + c1 + c2 + c3 + c4 + c5 + c6 + c7) := by
    apply Int32.toBitVec_inj.mp
    apply BitVec.eq_of_toNat_eq
    rw [Int32.toBitVec_and, BitVec.toNat_and, show (127 : Int32).toBitVec.toNat = 2 ^ 7 - 1 by decide, Nat.and_two_pow_sub_one_eq_mod]
    have h1 : v6.toInt32.toBitVec.toNat = un v6 % 2 ^ 32 := by
      rw [Int64.toBitVec_toInt32]; simp [un]
    have h2 : (nI (c0 + c1 + c2 + c3 + c4 + c5 + c6 + c7)).toBitVec.toNat = c0 + c1 + c2 + c3 + c4 + c5 + c6 + c7 := pk_tn (by omega)
    rw [h1, h2]
    omega
  have e : fJ_bitCount x = some (v6.toInt32 &&& (127 : Int32)) := by
    unfold fJ_bitCount fJ_bitCount_10 fJ_bitCount_24 fJ_bitCount_34 fJ_bitCount_41 fJ_bitCount_48 fJ_bitCount_55
    rw [← hv1, ← hv2, ← hv3, ← hv4, ← hv5, ← hv6]
  rw [e, hfin]
