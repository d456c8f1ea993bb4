/-! P26 6: the law looks at all nodes. -/
theorem i32_64 : (64 : Int32) = nI 64 := rfl
theorem i32_1 : (1 : Int32) = nI 1 := rfl
/-- some digit to the base 4, of d, is v -/
def anyd : Nat → Nat → Nat → Bool
  | 0, _, _ => false
  | d + 1, w, v => decide (w % 4 = v) || anyd d (w / 4) v
theorem anyd_0 {v : Nat} (hv : v ≠ 0) : ∀ d, anyd d 0 v = false := by
  intro d
  induction d with
  | zero => rfl
  | succ d ih =>
    unfold anyd
    rw [show 0 / 4 = 0 by decide, ih, decide_eq_false (show ¬ 0 % 4 = v by omega)]; rfl
theorem anyd_dig (m0 : Nat) (h0 : m0 < 4) (m1 : Nat) (h1 : m1 < 4) (m2 : Nat) (h2 : m2 < 4) (m3 : Nat) (h3 : m3 < 4) (v : Nat) : anyd 4 (m0 + 4 * m1 + 16 * m2 + 64 * m3) v = (decide (m0 = v) || (decide (m1 = v) || (decide (m2 = v) || (decide (m3 = v) || false)))) := by
  simp only [anyd]
  rw [show (m0 + 4 * m1 + 16 * m2 + 64 * m3) % 4 = m0 by omega, show (m0 + 4 * m1 + 16 * m2 + 64 * m3) / 4 = m1 + 4 * m2 + 16 * m3 by omega, show (m1 + 4 * m2 + 16 * m3) % 4 = m1 by omega, show (m1 + 4 * m2 + 16 * m3) / 4 = m2 + 4 * m3 by omega, show (m2 + 4 * m3) % 4 = m2 by omega, show (m2 + 4 * m3) / 4 = m3 by omega, show m3 % 4 = m3 by omega]
section NLOOK
variable {lo : Nat} {h : TH} {S L : MS} {t c s n G N P Q J : Nat} {gm nd : Nat → Nat} {gl nl : Nat → List BW} {ol : List Nat} {kp : Nat → Bool}
/-- a node in numbers -/
theorem nnum (H : Rel 16 lo h S t c s n G N P gm nd gl nl ol kp) (T : LT S L J n G ol.length Q N P) {j : Nat} (hj : j < N) : ∃ pa mv, pa ≤ 60 ∧ mv ≤ 50 ∧ m_I S 28 j + 1 = nI pa ∧ m_I S 30 j + 2 = nI mv ∧ m_I L 8 j = nI (pa + 64 * mv) ∧ (∀ i, i < 60 → (m_I S 28 j = nI i ↔ pa = i + 1)) ∧ (∀ p, p < 49 → (m_I S 30 j = nI p ↔ mv = p + 2)) ∧ (m_I S 30 j = -1 ↔ mv = 1) := by
  have h60 := H.N60
  have hL := (T.2.2.2.2.2.2.2 j hj).1
  obtain ⟨rt, g, -, -, -, -, -, -, -, -, -, hc⟩ := (H.nm hj).2.2.2.2.2.2
  have fin : ∀ pa mv, pa ≤ 60 → mv ≤ 50 → m_I S 28 j + 1 = nI pa → m_I S 30 j + 2 = nI mv → m_I L 8 j = nI (pa + 64 * mv) := fun pa mv _ _ e1 e2 => by rw [hL, e1, e2, i32_64, pk_mul, nI_add]
  rcases hc with ⟨-, s28, -, s30, -⟩ | ⟨pr, hpr, s28, -, -, s30, -⟩
  · have e1 : m_I S 28 j + 1 = nI 0 := by rw [s28]; rfl
    have e2 : m_I S 30 j + 2 = nI 0 := by rw [s30]; rfl
    refine ⟨0, 0, by omega, by omega, e1, e2, fin 0 0 (by omega) (by omega) e1 e2, fun i hi => ⟨fun e => ?_, fun e => by omega⟩, fun p hp => ⟨fun e => ?_, fun e => by omega⟩, ⟨fun e => ?_, fun e => by omega⟩⟩
    · rw [s28] at e; exact absurd e.symm (nI_nm1 (by omega))
    · rw [s30] at e
      have h2 : nI p + 2 = nI 0 := by rw [← e]; rfl
      rw [i32_2, nI_add] at h2
      have := (nI_eq (by omega) (by omega)).mp h2
      omega
    · rw [s30] at e; exact absurd e (by decide)
  · have e1 : m_I S 28 j + 1 = nI (pr + 1) := by rw [s28, nI_1]
    have c1 : ∀ i, i < 60 → (m_I S 28 j = nI i ↔ pr + 1 = i + 1) := fun i hi => by
      rw [s28]
      exact ⟨fun e => by have := (nI_eq (by omega) (by omega)).mp e; omega, fun e => by congr 1; omega⟩
    rcases s30 with s30 | ⟨p, hp, s30⟩
    · have e2 : m_I S 30 j + 2 = nI 1 := by rw [s30]; rfl
      refine ⟨pr + 1, 1, by omega, by omega, e1, e2, fin _ 1 (by omega) (by omega) e1 e2, c1, fun q hq => ⟨fun e => ?_, fun e => by omega⟩, ⟨fun _ => rfl, fun _ => s30⟩⟩
      rw [s30] at e; exact absurd e.symm (nI_nm1 (by omega))
    · have e2 : m_I S 30 j + 2 = nI (p + 2) := by rw [s30, i32_2, nI_add]
      refine ⟨pr + 1, p + 2, by omega, by omega, e1, e2, fin _ _ (by omega) (by omega) e1 e2, c1, fun q hq => ?_, ⟨fun e => ?_, fun e => by omega⟩⟩
      · rw [s30]
        exact ⟨fun e => by have := (nI_eq (by omega) (by omega)).mp e; omega, fun e => by congr 1; omega⟩
      · rw [s30] at e; exact absurd e (nI_nm1 (by omega))
section NK
variable {Ls : Nat} {xs : Nat → Int32} {K : Int32 → TH → MS → Prop}
theorem nodes_109 (H : Rel 16 lo h S t c s n G N P gm nd gl nl ol kp) (T : LT S L J n G ol.length Q N P) {i : Nat} (hi : i < N) {k40 : TH → MS → Int32 → Int32 → Prop} (k : ∀ z, t_sz h ≤ z → k40 (s_Z h z) L 1 (nI (i + 1))) {cn : Nat} (hcn : cn = (List.range N).countP fun j => decide (m_I S 28 j = nI i)) :
    ∀ (d fu w : Nat) (b1 b2 : Bool) (z : Nat), w < 4 ^ d → d < fu → d ≤ 8 → t_sz h ≤ z → ((b1 || anyd d w 1) && (b2 || anyd d w 2)) = (anyM (fun k => m_I S 36 (4 * i + k)) 1 0 4 && anyM (fun k => m_I S 36 (4 * i + k)) 2 0 4) →
    gL_areNodes_109 lo t Ls xs K k40 fu (s_Z h z) L (nI i) (nI cn) (bi b1) (bi b2) (nI w) := by
  have h60 := H.N60
  obtain ⟨pa, mv, hpa, hmv, -, e30, e8, -⟩ := nnum H T hi
  have fin : ∀ (f : Nat) (b1 b2 : Bool) (z : Nat), t_sz h ≤ z → (b1 && b2) = (anyM (fun k => m_I S 36 (4 * i + k)) 1 0 4 && anyM (fun k => m_I S 36 (4 * i + k)) 2 0 4) → gL_areNodes_109 lo t Ls xs K k40 (f + 1) (s_Z h z) L (nI i) (nI cn) (bi b1) (bi b2) (nI 0) := fun f b1 b2 z hz hb => by
    have Hz := H.Z hz
    have go : ∀ u : Int32, u = (if (anyM (fun k => m_I S 36 (4 * i + k)) 1 0 4 && anyM (fun k => m_I S 36 (4 * i + k)) 2 0 4) = true then 1 else 0) → gL_areNodes_201 lo t Ls xs K k40 (s_Z h z) L (nI i) (ndV S N i) ((1000 : Int32) * nI cn + (10 : Int32) * (m_I L 8 i / (64 : Int32))) u := fun u hu => by
      unfold gL_areNodes_201 gL_areNodes_210
      rw [if_pos (by
        unfold ndV
        rw [hu, hcn, e8, i32_64, pk_div (by omega) (by omega) (by omega), show (pa + 64 * mv) / 64 = mv by omega, e30]), nI_1]
      exact k z hz
    rw [gL_areNodes_109, if_pos (by decide)]
    refine ⟨H.1.1, _, _, rd_node Hz hi, Hz.ld, xin_nI (by omega) (by omega), ?_⟩
    rw [clp (by omega)]
    rw [← hb] at go
    cases b1
    · rw [if_pos (show bi false = 0 from rfl)]; exact go 0 rfl
    · rw [if_neg (by decide)]
      cases b2
      · rw [if_pos (show bi false = 0 from rfl)]; exact go 0 rfl
      · rw [if_neg (by decide)]; exact go 1 rfl
  intro d
  induction d with
  | zero =>
    intro fu w b1 b2 z hw hf _ hz hb
    obtain ⟨f, rfl⟩ : ∃ f, fu = f + 1 := ⟨fu - 1, by omega⟩
    obtain rfl : w = 0 := by simpa using hw
    exact fin f b1 b2 z hz (by simpa [anyd] using hb)
  | succ d ih =>
    intro fu w b1 b2 z hw hf hd8 hz hb
    obtain ⟨f, rfl⟩ : ∃ f, fu = f + 1 := ⟨fu - 1, by omega⟩
    by_cases hw0 : w = 0
    · subst hw0
      rw [anyd_0 (by decide), anyd_0 (by decide), Bool.or_false, Bool.or_false] at hb
      exact fin f b1 b2 z hz hb
    · have hp : 4 ^ d ≤ 4 ^ 8 := Nat.pow_le_pow_right (by omega) (by omega)
      have hp1 : 4 ^ (d + 1) = 4 * 4 ^ d := by rw [Nat.pow_succ]; omega
      rw [hp1] at hw
      rw [gL_areNodes_109, if_neg (nI_nle (by omega) (by omega))]
      have e1 := ih f (w / 4) (b1 || decide (w % 4 = 1)) (b2 || decide (w % 4 = 2)) z (by omega) (by omega) (by omega) hz (by
        rw [← hb]
        conv => rhs; rw [anyd, anyd]
        rw [Bool.or_assoc, Bool.or_assoc])
      have r4 : nI w - nI w / (4 : Int32) * (4 : Int32) = nI (w % 4) := by rw [i32_4]; exact pk_rem (by omega) (by omega) (by omega)
      have d4 : nI w / (4 : Int32) = nI (w / 4) := by rw [i32_4]; exact pk_div (by omega) (by omega) (by omega)
      have s152 : ∀ (x1 x2 : Int32), x1 = bi (b1 || decide (w % 4 = 1)) → x2 = bi (b2 || decide (w % 4 = 2)) → gL_areNodes_152 lo t Ls xs K k40 (gL_areNodes_109 lo t Ls xs K k40 f) (s_Z h z) L (nI i) (nI cn) x1 (nI w) x2 := fun x1 x2 h1 h2 => by
        unfold gL_areNodes_152
        rw [d4, h1, h2]
        exact e1
      have s132 : ∀ (x1 : Int32), x1 = bi (b1 || decide (w % 4 = 1)) → gL_areNodes_132 lo t Ls xs K k40 (gL_areNodes_109 lo t Ls xs K k40 f) (s_Z h z) L (nI i) (nI cn) (bi b2) (nI w) x1 := fun x1 h1 => by
        unfold gL_areNodes_132
        rw [r4]
        cases b2
        · rw [if_pos (show bi false = 0 from rfl)]
          by_cases q : w % 4 = 2
          · rw [if_pos (by rw [q]; rfl)]; exact s152 _ _ h1 (by rw [decide_eq_true q]; rfl)
          · rw [if_neg (fun e => q ((nI_eq (by omega) (by omega)).mp (e.trans i32_2)))]; exact s152 _ _ h1 (by rw [decide_eq_false q]; rfl)
        · rw [if_neg (by decide)]; exact s152 _ _ h1 rfl
      cases b1
      · rw [if_pos (show bi false = 0 from rfl), r4]
        by_cases q : w % 4 = 1
        · rw [if_pos (by rw [q]; rfl)]; exact s132 _ (by rw [decide_eq_true q]; rfl)
        · rw [if_neg (fun e => q ((nI_eq (by omega) (by omega)).mp (e.trans i32_1)))]; exact s132 _ (by rw [decide_eq_false q]; rfl)
      · rw [if_neg (by decide)]; exact s132 _ rfl
theorem nodes_59 (H : Rel 16 lo h S t c s n G N P gm nd gl nl ol kp) (T : LT S L J n G ol.length Q N P) {i : Nat} (hi : i < N) {k40 : TH → MS → Int32 → Int32 → Prop} (k : ∀ z, t_sz h ≤ z → k40 (s_Z h z) L 1 (nI (i + 1))) :
    ∀ (d fu j z : Nat), j + d = N → d < fu → t_sz h ≤ z → gL_areNodes_59 lo t Ls xs K k40 fu (s_Z h z) L (nI i) (nI ((List.range j).countP fun j => decide (m_I S 28 j = nI i))) (nI j) := by
  have h60 := H.N60
  have hT7 := T.2.2.1
  intro d
  induction d with
  | zero =>
    intro fu j z hj hf hz
    obtain ⟨f, rfl⟩ : ∃ f, fu = f + 1 := ⟨fu - 1, by omega⟩
    obtain rfl : j = N := by omega
    obtain ⟨-, hm4, e9⟩ := T.2.2.2.2.2.2.2 i hi
    obtain ⟨m0, hm0, q0⟩ := hm4 0 (by omega)
    obtain ⟨m1, hm1, q1⟩ := hm4 1 (by omega)
    obtain ⟨m2, hm2, q2⟩ := hm4 2 (by omega)
    obtain ⟨m3, hm3, q3⟩ := hm4 3 (by omega)
    rw [Nat.add_zero] at q0
    have e9' : m_I L 9 i = nI (m0 + 4 * m1 + 16 * m2 + 64 * m3) := by
      rw [e9, q0, q1, q2, q3, i32_4, i32_16, i32_64, pk_mul, pk_mul, pk_mul, nI_add, nI_add, nI_add]
    rw [gL_areNodes_59, show (4 : Int32).toNatClampNeg = 4 by decide, hT7.2.2.2.2, if_pos (nI_le (by omega) (by omega)), clp (by omega), e9']
    refine ⟨xin_nI (by omega) (by omega), ?_⟩
    refine nodes_109 H T hi k rfl 4 FU _ false false z ?_ (FU_lt (by omega)) (by omega) hz ?_
    · show m0 + 4 * m1 + 16 * m2 + 64 * m3 < 256; omega
    · rw [anyd_dig m0 hm0 m1 hm1 m2 hm2 m3 hm3 1, anyd_dig m0 hm0 m1 hm1 m2 hm2 m3 hm3 2]
      have dq : ∀ m v : Nat, m < 4 → v < 4 → decide (nI m = nI v) = decide (m = v) := fun m v h1 h2 => decide_eq_decide.mpr (nI_eq (by omega) (by omega))
      have am : ∀ v : Nat, v < 4 → anyM (fun k => m_I S 36 (4 * i + k)) (nI v) 0 4 = (decide (m0 = v) || (decide (m1 = v) || (decide (m2 = v) || (decide (m3 = v) || false)))) := fun v hv => by
        simp only [anyM]
        show (decide (m_I S 36 (4 * i) = nI v) || (decide (m_I S 36 (4 * i + 1) = nI v) || (decide (m_I S 36 (4 * i + 2) = nI v) || (decide (m_I S 36 (4 * i + 3) = nI v) || false)))) = _
        rw [q0, q1, q2, q3, dq _ _ hm0 hv, dq _ _ hm1 hv, dq _ _ hm2 hv, dq _ _ hm3 hv]
      rw [i32_1, i32_2, am 1 (by omega), am 2 (by omega), Bool.false_or, Bool.false_or]
  | succ d ih =>
    intro fu j z hj hf hz
    obtain ⟨f, rfl⟩ : ∃ f, fu = f + 1 := ⟨fu - 1, by omega⟩
    obtain ⟨pa, mv, hpa, hmv, -, -, e8, hp, -, -⟩ := nnum H T (show j < N by omega)
    have h2 := ih f (j + 1) z (by omega) (by omega) hz
    rw [List.range_succ, List.countP_append, List.countP_singleton] at h2
    rw [gL_areNodes_59, show (4 : Int32).toNatClampNeg = 4 by decide, hT7.2.2.2.2, if_neg (nI_ge (by omega) (by omega)), clp (by omega), e8, i32_64, pk_rem (by omega) (by omega) (by omega), show (pa + 64 * mv) % 64 = pa by omega, nI_1]
    refine ⟨xin_nI (by omega) (by omega), ?_⟩
    unfold gL_areNodes_88
    by_cases q : pa = i + 1
    · rw [decide_eq_true ((hp i (by omega)).mpr q), if_pos rfl] at h2
      rw [if_pos (by rw [q]), nI_1, nI_1]
      exact h2
    · rw [decide_eq_false (fun e => q ((hp i (by omega)).mp e))] at h2
      rw [if_neg (fun e => q ((nI_eq (by omega) (by omega)).mp e)), nI_1, Int32.add_zero]
      exact h2
theorem nodes_40 (H : Rel 16 lo h S t c s n G N P gm nd gl nl ol kp) (T : LT S L J n G ol.length Q N P) (k : ∀ z, t_sz h ≤ z → K 1 (s_Z h z) L) : ∀ (d fu i z : Nat), i + d = N → d < fu → t_sz h ≤ z → gL_areNodes_40 lo t Ls xs K fu (s_Z h z) L 1 (nI i) := by
  have h60 := H.N60
  have hT7 := T.2.2.1
  intro d
  induction d with
  | zero =>
    intro fu i z hi hf hz
    obtain ⟨f, rfl⟩ : ∃ f, fu = f + 1 := ⟨fu - 1, by omega⟩
    rw [gL_areNodes_40, show (4 : Int32).toNatClampNeg = 4 by decide, hT7.2.2.2.2, if_pos (nI_le (by omega) (by omega))]
    exact ⟨true, bi_1, k z hz⟩
  | succ d ih =>
    intro fu i z hi hf hz
    obtain ⟨f, rfl⟩ : ∃ f, fu = f + 1 := ⟨fu - 1, by omega⟩
    rw [gL_areNodes_40, show (4 : Int32).toNatClampNeg = 4 by decide, hT7.2.2.2.2, if_neg (nI_ge (by omega) (by omega)), if_neg (by decide)]
    exact nodes_59 H T (by omega) (fun z2 hz2 => ih f (i + 1) z2 (by omega) (by omega) hz2) N FU 0 z (by omega) (FU_lt (by omega)) hz
theorem areNodes_ok (H : Rel 16 lo h S t c s n G N P gm nd gl nl ol kp) (T : LT S L J n G ol.length Q N P) (k : ∀ z, t_sz h ≤ z → K 1 (s_Z h z) L) : gL_areNodes lo t Ls xs K h L := by
  have h60 := H.N60
  have hT7 := T.2.2.1
  have hN := T.2.1.2.2.2.1
  unfold gL_areNodes
  rw [show (4 : Int32).toNatClampNeg = 4 by decide, hT7.2.2.2.2]
  refine asks_9 (AX.err H (rx_node H (isN_end (by omega))) fun z1 hz1 => ?_)
  have H1 := H.Z hz1
  rw [if_pos rfl]
  refine asks_9 (AX.err H1 (rx_node H1 isN_m1) fun z2 hz2 => ?_)
  rw [if_pos rfl]
  exact nodes_40 H T k N 62 0 z2 (by omega) (by omega) (Nat.le_trans hz1 hz2)
end NK
end NLOOK
