/-! P26 13: settling. -/
def tz : Nat → Nat → Nat
  | 0, _ => 0
  | f + 1, v => if v % 2 = 1 then 0 else tz f (v / 2) + 1
def lbP (v : Nat) : Bool := decide (v = 0) || decide ((nI v &&& -(nI v)) = nI (2 ^ tz 16 v))
def chk : Nat → Nat → Bool
  | 0, v => lbP v
  | d + 1, v => chk d (2 * v) && chk d (2 * v + 1)
theorem chk_16 : chk 16 0 = true := by decide +kernel
theorem chk_s : ∀ (d v : Nat), chk d v = true → ∀ w, w < 2 ^ d → lbP (v * 2 ^ d + w) = true := by
  intro d
  induction d with
  | zero =>
    intro v h w hw
    obtain rfl : w = 0 := by simpa using hw
    simpa [chk] using h
  | succ d ih =>
    intro v h w hw
    rw [chk, Bool.and_eq_true] at h
    have e : 2 ^ (d + 1) = 2 * 2 ^ d := by rw [Nat.pow_succ]; omega
    rw [e] at hw ⊢
    by_cases q : w < 2 ^ d
    · have := ih (2 * v) h.1 w q
      rw [show v * (2 * 2 ^ d) = 2 * v * 2 ^ d by rw [← Nat.mul_assoc, Nat.mul_comm v 2]]
      exact this
    · have := ih (2 * v + 1) h.2 (w - 2 ^ d) (by omega)
      rw [Nat.add_mul, Nat.one_mul, Nat.add_assoc, show 2 ^ d + (w - 2 ^ d) = w by omega] at this
      rw [show v * (2 * 2 ^ d) = 2 * v * 2 ^ d by rw [← Nat.mul_assoc, Nat.mul_comm v 2]]
      exact this
theorem tz_eq : ∀ (f v g : Nat), g < f → v.testBit g = true → (∀ j, j < g → v.testBit j = false) → tz f v = g := by
  intro f
  induction f with
  | zero => intro v g hg; omega
  | succ f ih =>
    intro v g hg h1 h2
    unfold tz
    cases g with
    | zero =>
      rw [Nat.testBit_zero, decide_eq_true_eq] at h1
      rw [if_pos h1]
    | succ g =>
      have h0 := h2 0 (by omega)
      rw [Nat.testBit_zero, decide_eq_false_iff_not] at h0
      rw [if_neg h0, ih (v / 2) g (by omega) (by rw [← Nat.testBit_succ]; exact h1) (fun j hj => by rw [← Nat.testBit_succ]; exact h2 (j + 1) (by omega))]
theorem low_bits : ∀ g, g < 16 → fL_bits ((nI (2 ^ g)).toInt64 - 1) = some (nI g) := by decide +kernel
theorem low_L {S : MS} {ol : List Nat} {G g : Nat} (hG : G ≤ 16) (hg : g < G) (hb : ofb S ol g = true) (hl : ∀ j, j < g → ofb S ol j = false) : fL_bits (((ofs S ol G) &&& -(ofs S ol G)).toInt64 - 1) = some (nI g) := by
  have hbit := ofs_bit (S := S) (ol := ol) G hG
  generalize ofs S ol G = x at hbit ⊢
  have tb : ∀ i, x.toBitVec.toNat.testBit i = (decide (i < G) && ofb S ol i) := fun i => by
    by_cases hi : i < 32
    · rw [← hbit i hi]; rfl
    · rw [show x.toBitVec.toNat.testBit i = x.toBitVec.getLsbD i from rfl, BitVec.getLsbD_of_ge _ _ (by omega), decide_eq_false (by omega)]; rfl
  have hv : x.toBitVec.toNat < 2 ^ 16 := Nat.lt_pow_two_of_testBit _ fun i hi => by rw [tb, decide_eq_false (by omega)]; rfl
  have hx : x = nI x.toBitVec.toNat := by
    apply Int32.toBitVec_inj.mp
    show x.toBitVec = BitVec.ofNat 32 x.toBitVec.toNat
    rw [BitVec.ofNat_toNat, BitVec.setWidth_eq]
  have ht : tz 16 x.toBitVec.toNat = g := tz_eq 16 _ g (by omega) (by rw [tb, decide_eq_true hg, hb]; rfl) (fun j hj => by rw [tb, hl j hj, Bool.and_false])
  have hc := chk_s 16 0 chk_16 _ hv
  rw [Nat.zero_mul, Nat.zero_add] at hc
  unfold lbP at hc
  have hne : ¬ x.toBitVec.toNat = 0 := fun e => by
    have := tb g
    rw [e, Nat.zero_testBit, decide_eq_true hg, hb] at this
    cases this
  rw [decide_eq_false hne, Bool.false_or, decide_eq_true_eq, ← hx, ht] at hc
  rw [hc]
  exact low_bits g (by omega)
theorem ex_low {f : Nat → Bool} : ∀ G, (∃ i, i < G ∧ f i = true) → ∃ g, g < G ∧ f g = true ∧ ∀ j, j < g → f j = false := by
  intro G
  induction G with
  | zero => rintro ⟨i, h, _⟩; omega
  | succ G ih =>
    rintro ⟨i, hi, hf⟩
    by_cases q : ∃ i, i < G ∧ f i = true
    · obtain ⟨g, h1, h2, h3⟩ := ih q
      exact ⟨g, by omega, h2, h3⟩
    · have : i = G := by
        rcases Nat.lt_or_ge i G with z | z
        · exact absurd ⟨i, z, hf⟩ q
        · omega
      subst this
      refine ⟨i, by omega, hf, fun j hj => ?_⟩
      cases hc : f j
      · rfl
      · exact absurd ⟨j, hj, hc⟩ q
section SETTLE
variable {lo : Nat} {t c s n G N P Q J : Nat} {gm nd : Nat → Nat} {gl nl : Nat → List BW}
variable {Ls : Nat} {xs : Nat → Int32} {K : Int32 → TH → MS → Prop}
theorem LT.off {h : TH} {S L : MS} {ol : List Nat} {kp : Nat → Bool} (H : Rel 16 lo h S t c s n G N P gm nd gl nl ol kp) (T : LT S L J n G ol.length Q N P) : fL_off L = some (ofs S ol G, L) :=
  off_L (LT.lk H T) (LT.lr H T) T.2.2.1.2.2.2.1 T.2.2.1.2.1 H.G16 (fun g hg => LT.gb H T hg)
theorem settle_law {h0 : TH} {v : Int32} {S2 : MS} (kend : ∀ (k' : Nat) (L2 : MS) (E : Nat), v = nI k' → LT S2 L2 J n G E Q N P → (t_kd h0 t = 7 ∧ ∃ v4 h5, fX8_settle h0 t = some (v4, h5) ∧ LDp lo h5 ∧ (if v4 = nI k' then K 1 h5 L2 else K 0 h5 L2))) :
    ∀ (V : Nat) (h : TH) (S : MS) (ol : List Nat) (kp : Nat → Bool) (L : MS) (k f1 fu : Nat), Rel 16 lo h S t c s n G N P gm nd gl nl ol kp → vc S G = V → V < f1 → V < fu → LT S L J n G ol.length Q N P → fX9_settle_12 f1 S (nI k) (ofs S ol G) = some (v, S2) → gL_isSettled_13 lo t Ls xs K fu h0 L (nI k) (ofs S ol G) := by
  intro V
  induction V using Nat.strongRecOn with
  | _ V ih =>
    intro h S ol kp L k f1 fu H hV hf1 hfu T e
    have h16 := H.G16
    have hT7 := T.2.2.1
    obtain ⟨f1, rfl⟩ : ∃ j, f1 = j + 1 := ⟨f1 - 1, by omega⟩
    obtain ⟨fu, rfl⟩ : ∃ j, fu = j + 1 := ⟨fu - 1, by omega⟩
    rw [fX9_settle_12] at e
    rw [gL_isSettled_13]
    by_cases z : ofs S ol G = 0
    · rw [if_pos z] at e ⊢
      obtain ⟨e1, e2⟩ := Prod.mk.inj (Option.some.inj e)
      subst e2
      exact kend k L _ e1.symm T
    · rw [if_neg z] at e ⊢
      obtain ⟨g, hg, hb, hl⟩ := ex_low (f := ofb S ol) G (Classical.byContradiction fun q => z ((ofs_0 h16).mpr fun i hi => by
        cases hc : ofb S ol i
        · rfl
        · exact absurd ⟨i, hi, hc⟩ q))
      have hg9 : m_I S 9 g = 0 := by
        have hb2 := hb
        unfold ofb at hb2
        rw [Bool.and_eq_true, decide_eq_true_eq] at hb2
        exact hb2.1
      rw [show (0 : Int32) = nI 0 from rfl, settle_18 H hg hb hl g FU 0 (by omega) (FU_lt (by omega))] at e
      obtain ⟨kp2, S3, k1, k2, k3, k4, k5⟩ := void_E H hg
      obtain ⟨S4, m1, m2, m3⟩ := off_X9 k2
      unfold fX9_settle_75 at e
      rw [k1, Option.bind_some, m1, Option.bind_some, nI_1, ← ofs_sq m2] at e
      have hv9 : ∀ i, m_I S4 9 i = if i = g then 1 else m_I S 9 i := fun i => by rw [m2.I' 9 (by omega)]; exact k4 i
      have hlt : vc S4 G < vc S G := by
        refine countP_lt (x := g) (fun i q => ?_) (List.mem_range.mpr hg) (by simp [hg9]) (by simp [hv9])
        rw [hv9] at q
        by_cases e2 : i = g
        · subst e2; simp at q
        · simpa [e2] using q
      obtain ⟨L2, g1, g2⟩ := LT.voided H T (Nat.le_refl J) hg hg9 k2 k5
      have T4 : LT S4 L2 J n G (vO S g ol).length Q N P := g2.sq (Nat.le_refl J) (fun _ => m2)
      have hnext := ih (vc S4 G) (by omega) _ S4 (vO S g ol) kp2 L2 (k + 1) f1 fu (k2.sq m2) rfl (by omega) (by omega) T4 e
      rw [ofs_sq m2] at hnext
      have hoff := LT.off k2 g2
      have w73 : m_I (vW L S g ol.length) 7 3 = nI (vO S g ol).length := by
        rw [vW_I, vO_len]
        by_cases q : m_I S 8 g = 0
        · rw [if_pos ⟨q, rfl, rfl⟩, if_pos q]
        · rw [if_neg (fun y => q y.1), if_neg (fun y => q y.1), if_neg (fun y => q y.1), if_neg (by omega), if_neg q]; exact hT7.2.2.2.1
      have e80 : gL_isSettled_80 lo t Ls xs K (gL_isSettled_13 lo t Ls xs K fu) h0 (vW L S g ol.length) (nI k) := by
        unfold gL_isSettled_80
        rw [show (3 : Int32).toNatClampNeg = 3 by decide, w73, nI_1]
        exact ⟨_, g1, _, hoff, hnext⟩
      refine ⟨_, low_L h16 hg hb hl, ?_⟩
      have e3 : (3 : Int32).toNatClampNeg = 3 := by decide
      rw [i32_48, i32_32, nI_add, nI_add, clp (show 48 + g < 2 ^ 31 by omega), clp (show 32 + g < 2 ^ 31 by omega), e3]
      refine ⟨xin_nI (by omega) (by omega), _, rfl, xin_nI (by omega) (by omega), ?_⟩
      have w8 : m_I (ms_I L 4 (48 + g) (m_I L 4 (48 + g) + 1)) 4 (32 + g) = m_I S 8 g := by
        rw [mI_I, if_neg (by omega)]; exact (T.2.2.2.2.1 g hg).1.2.2.1
      rw [w8]
      by_cases q : m_I S 8 g = 0
      · have hlt16 : ol.length < 16 := by have := (H.ol_lt hg q).1; omega
        have r73 : m_I (ms_I (ms_I L 4 (48 + g) (m_I L 4 (48 + g) + 1)) 4 (32 + g) 2) 7 3 = nI ol.length := by
          rw [mI_I, if_neg (by omega), mI_I, if_neg (by omega)]; exact hT7.2.2.2.1
        rw [if_pos q, r73, nI_add, clp (show 32 + ol.length < 2 ^ 31 by omega)]
        refine ⟨xin_nI (by omega) (by omega), _, rfl, _, rfl, ?_⟩
        rw [mI_I, if_neg (by omega), r73, nI_1]
        unfold vW at e80
        rw [if_pos q] at e80
        exact e80
      · rw [if_neg q]
        unfold vW at e80
        rw [if_neg q] at e80
        exact e80
theorem isSettled_ok {h : TH} {S L : MS} {ol : List Nat} {kp : Nat → Bool} (hJ : J ≤ 60) (hP : P ≤ J) (H : Rel 16 lo h S t c s n G N P gm nd gl nl ol kp) (T : LT S L J n G ol.length Q N P) (k : ∀ h2 S2 L2, Tie lo t (J + 1) h2 S2 L2 → K 1 h2 L2) : gL_isSettled lo t Ls xs K h L := by
  have h16 := H.G16
  obtain ⟨v, h2, S2, e8, e9, R, h47⟩ := call_settle (K := J) (Tie.rr H hP)
  have H1 := H.sq (n := n) (S2 := ms_i S 47 0) Sq.f
  obtain ⟨S1, m1, m2, m3⟩ := off_X9 H1
  have H2 := H1.sq m2
  have hs : Sq n S S1 := Sq.tr Sq.f m2
  unfold fX9_settle at e9
  rw [m1, Option.bind_some, ← ofs_sq m2] at e9
  have T1 : LT S1 L J n G ol.length Q N P := T.sq (Nat.le_refl J) (fun _ => hs)
  have hvc : vc S1 G ≤ G := by
    have := List.countP_le_length (p := fun i => decide (m_I S1 9 i = 0)) (l := List.range G)
    simpa [vc] using this
  have w := settle_law (lo := lo) (t := t) (c := c) (s := s) (n := n) (G := G) (N := N) (P := P) (Q := Q) (J := J) (gm := gm) (nd := nd) (gl := gl) (nl := nl) (Ls := Ls) (xs := xs) (K := K) (h0 := h) (v := v) (S2 := S2) (fun k' L2 E ev T2 => by
    refine ⟨H.1.1, v, h2, e8, R.ld, ?_⟩
    rw [if_pos ev]
    exact k h2 S2 L2 (Tie.mk' (by omega) R (T2.sq (Nat.le_succ J) (fun _ => Sq.rf)))) (vc S1 G) h S1 ol kp L 0 FU FU H2 rfl (FU_lt (by omega)) (FU_lt (by omega)) T1 e9
  unfold gL_isSettled
  refine ⟨_, LT.off H T, ?_⟩
  rw [ofs_sq hs] at w
  exact w
end SETTLE
