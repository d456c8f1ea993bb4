/-! PURE 27: nodes: node and mark. -/
/-- some place from i on, d of them, holds v -/
def anyM (f : Nat → Int32) (v : Int32) : Nat → Nat → Bool
  | _, 0 => false
  | i, d + 1 => decide (f i = v) || anyM f v (i + 1) d
theorem anyM_c {f g : Nat → Int32} {v : Int32} : ∀ (d i : Nat), (∀ k, i ≤ k → k < i + d → f k = g k) → anyM f v i d = anyM g v i d := by
  intro d
  induction d with
  | zero => intro i _; rfl
  | succ d ih =>
    intro i h
    unfold anyM
    rw [h i (Nat.le_refl _) (by omega), ih (i + 1) (fun k h1 h2 => h k (by omega) (by omega))]
theorem hasMark_2 {h : TH} {q a : Nat} {v : Int32} (hk : t_kd h q = 6) (h6 : t_R h q 6 = some a) (h9 : t_kd h a = 9) (h4 : t_ln h a = 4) : ∀ (d fu i : Nat), i + d = 4 → d < fu → fX7_hasMark_2 fu h q v (nI i) = some (anyM (t_I h a) v i d) := by
  intro d
  induction d with
  | zero =>
    intro fu i hi hf
    obtain ⟨fu, rfl⟩ : ∃ j, fu = j + 1 := ⟨fu - 1, by omega⟩
    rw [fX7_hasMark_2, if_pos hk, h6, Option.bind_some, if_pos h9, h4, if_pos (nI_le (by omega) (by omega))]
    rfl
  | succ d ih =>
    intro fu i hi hf
    obtain ⟨fu, rfl⟩ : ∃ j, fu = j + 1 := ⟨fu - 1, by omega⟩
    rw [fX7_hasMark_2, if_pos hk, h6, Option.bind_some, if_pos h9, h4, if_neg (nI_ge (by omega) (by omega)), if_pos (xin_nI (by omega) (by omega)), clp (by omega), nI_1, ih fu (i + 1) (by omega) (by omega)]
    rw [show anyM (t_I h a) v i (d + 1) = (decide (t_I h a i = v) || anyM (t_I h a) v (i + 1) d) from rfl]
    by_cases e : t_I h a i = v
    · rw [if_pos e, decide_eq_true e, Bool.true_or]
    · rw [if_neg e, decide_eq_false e, Bool.false_or]
theorem i32_4 : (4 : Int32) = nI 4 := by decide
theorem i32_m2 (x : Int32) : x - (-2 : Int32) = x + 2 := by
  rw [Int32.sub_eq_add_neg]; rfl
/-- what node tells -/
def ndV (S : MS) (N a : Nat) : Int32 := (1000 : Int32) * nI ((List.range N).countP fun j => decide (m_I S 28 j = nI a)) + (10 : Int32) * (m_I S 30 a + 2) + (if anyM (fun k => m_I S 36 (4 * a + k)) 1 0 4 && anyM (fun k => m_I S 36 (4 * a + k)) 2 0 4 then 1 else 0)
theorem node_68 {S : MS} {a : Nat} {w : Int32} (ha : a < 60) : ∀ (d fu i : Nat) (b1 b2 : Bool), i + d = 4 → d < fu → fX9_node_68 fu S (nI a) w (bi b1) (bi b2) (nI (4 * a + i)) = some ((1000 : Int32) * w + (10 : Int32) * (m_I S 30 a + 2) + (if (b1 || anyM (fun k => m_I S 36 (4 * a + k)) 1 i d) && (b2 || anyM (fun k => m_I S 36 (4 * a + k)) 2 i d) then 1 else 0), S) := by
  intro d
  induction d with
  | zero =>
    intro fu i b1 b2 hi hf
    obtain ⟨fu, rfl⟩ : ∃ j, fu = j + 1 := ⟨fu - 1, by omega⟩
    rw [fX9_node_68, i32_4, pk_mul, nI_add, if_pos (nI_le (by omega) (by omega)), if_pos (xin_nI ha (by omega)), clp (show a < 2 ^ 31 by omega)]
    unfold fX9_node_159 anyM
    cases b1
    · rw [if_pos bi0]; rfl
    · rw [if_neg bi1]
      cases b2
      · rw [if_pos bi0]; rfl
      · rw [if_neg bi1]; rfl
  | succ d ih =>
    intro fu i b1 b2 hi hf
    obtain ⟨fu, rfl⟩ : ∃ j, fu = j + 1 := ⟨fu - 1, by omega⟩
    have s120 : ∀ c1 c2 : Bool, fX9_node_120 (fX9_node_68 fu) S (nI a) w (bi c1) (nI (4 * a + i)) (bi c2) = some ((1000 : Int32) * w + (10 : Int32) * (m_I S 30 a + 2) + (if (c1 || anyM (fun k => m_I S 36 (4 * a + k)) 1 (i + 1) d) && (c2 || anyM (fun k => m_I S 36 (4 * a + k)) 2 (i + 1) d) then 1 else 0), S) := fun c1 c2 => by
      unfold fX9_node_120
      rw [nI_1, Nat.add_assoc]
      exact ih fu (i + 1) c1 c2 (by omega) (by omega)
    have hx : xin (nI (4 * a + i)) 240 = true := xin_nI (by omega) (by omega)
    have hc : (nI (4 * a + i)).toNatClampNeg = 4 * a + i := clp (by omega)
    have s98 : ∀ c1 : Bool, fX9_node_98 (fX9_node_68 fu) S (nI a) w (bi b2) (nI (4 * a + i)) (bi c1) = some ((1000 : Int32) * w + (10 : Int32) * (m_I S 30 a + 2) + (if (c1 || anyM (fun k => m_I S 36 (4 * a + k)) 1 (i + 1) d) && (b2 || anyM (fun k => m_I S 36 (4 * a + k)) 2 i (d + 1)) then 1 else 0), S) := fun c1 => by
      unfold fX9_node_98
      rw [show anyM (fun k => m_I S 36 (4 * a + k)) 2 i (d + 1) = (decide (m_I S 36 (4 * a + i) = 2) || anyM (fun k => m_I S 36 (4 * a + k)) 2 (i + 1) d) from rfl]
      cases b2
      · rw [if_pos bi0, if_pos hx, hc]
        by_cases e : m_I S 36 (4 * a + i) = 2
        · rw [if_pos e, decide_eq_true e]; exact s120 c1 true
        · rw [if_neg e, decide_eq_false e]; exact s120 c1 false
      · rw [if_neg bi1]; exact s120 c1 true
    rw [fX9_node_68, i32_4, pk_mul, nI_add, if_neg (nI_ge (by omega) (by omega)), show anyM (fun k => m_I S 36 (4 * a + k)) 1 i (d + 1) = (decide (m_I S 36 (4 * a + i) = 1) || anyM (fun k => m_I S 36 (4 * a + k)) 1 (i + 1) d) from rfl]
    cases b1
    · rw [if_pos bi0, if_pos hx, hc]
      by_cases e : m_I S 36 (4 * a + i) = 1
      · rw [if_pos e, decide_eq_true e]; exact s98 true
      · rw [if_neg e, decide_eq_false e]; exact s98 false
    · rw [if_neg bi1]; exact s98 true
theorem node_26 {S : MS} {N a : Nat} (hN : N ≤ 60) (h36 : m_i S 36 = nI N) (ha : a < 60) : ∀ (d fu i : Nat), i + d = N → d < fu → fX9_node_26 fu S (nI a) (nI ((List.range i).countP fun j => decide (m_I S 28 j = nI a))) (nI i) = some (ndV S N a, S) := by
  intro d
  induction d with
  | zero =>
    intro fu i hi hf
    obtain ⟨fu, rfl⟩ : ∃ j, fu = j + 1 := ⟨fu - 1, by omega⟩
    rw [fX9_node_26, h36, if_pos (nI_le (by omega) (by omega)), i32_4, pk_mul, show i = N by omega]
    exact node_68 ha 4 FU 0 false false (by omega) (by unfold FU; omega)
  | succ d ih =>
    intro fu i hi hf
    obtain ⟨fu, rfl⟩ : ∃ j, fu = j + 1 := ⟨fu - 1, by omega⟩
    have := ih fu (i + 1) (by omega) (by omega)
    rw [List.range_succ, List.countP_append] at this
    rw [fX9_node_26, h36, if_neg (nI_ge (by omega) (by omega)), if_pos (xin_nI (by omega) (by omega)), clp (by omega)]
    unfold fX9_node_50
    rw [nI_1]
    by_cases e : m_I S 28 i = nI a
    · rw [if_pos e, nI_1]
      simpa [e] using this
    · rw [if_neg e, Int32.add_zero, nI_1]
      simpa [e] using this
section NODES
variable {u mo : Nat} {h : TH} {S : MS} {t c s n G N P : Nat} {gm nd : Nat → Nat} {gl nl : Nat → List BW} {ol : List Nat} {kp : Nat → Bool}
theorem Rel.nm (H : Rel u mo h S t c s n G N P gm nd gl nl ol kp) {i : Nat} (hi : i < N) : NM h S G N nd gl nl i := H.2.2.2.2.1.2.2.2.2.2.2 i hi
theorem Rel.N60 (H : Rel u mo h S t c s n G N P gm nd gl nl ol kp) : N ≤ 60 := H.2.2.2.2.1.1
theorem twigOf_X8 (H : Rel u mo h S t c s n G N P gm nd gl nl ol kp) (x : Int32) : (∃ i, i < N ∧ x = nI i ∧ fX8_twigOf h t x = some (.inl (some (nd i), h))) ∨ (isN x N = false ∧ fX8_twigOf h t x = some (.inr (eI, h))) := by
  have h60 := H.N60
  have hrow := H.2.2.2.2.1.2.2.2.1
  have hk5 : t_kd h s = 5 := H.1.2.2.2.2.1
  obtain ⟨r0, r13, r60⟩ := H.1.2.2.2.2.2.1
  unfold fX8_twigOf fX6_twigAt
  rw [if_pos H.1.1, H.1.2.2.1, Option.bind_some, if_pos hk5]
  by_cases h0 : x < 0
  · right
    rw [if_pos h0]
    exact ⟨isN_neg h0, rfl⟩
  · rw [if_neg h0, r0, Option.bind_some, if_pos r13, r60]
    by_cases hlt : x < nI 60
    · obtain ⟨k, hk, rfl, hq⟩ := isN_lt (a := N) (by omega) (by omega) h0 hlt
      rw [if_pos hlt, if_pos (xin_nI hk (by omega)), clp (by omega), hrow k hk, if_pos hk5]
      by_cases hG : k < N
      · left
        rw [if_pos hG]
        exact ⟨k, hG, rfl, rfl⟩
      · right
        rw [if_neg hG]
        exact ⟨by rw [hq]; simp; omega, rfl⟩
    · right
      rw [if_neg hlt, if_pos hk5]
      exact ⟨isN_ge h60 (by omega) hlt, rfl⟩
theorem told_X7 (H : Rel u mo h S t c s n G N P gm nd gl nl ol kp) {i : Nat} (hi : i < N) : fX7_told h (nd i) = some (ndV S N i) := by
  obtain ⟨n1, n2, n3, n4, ⟨n5, n6, n7, n8⟩, -⟩ := H.nm hi
  have hm : ∀ v, fX7_hasMark h (nd i) v = some (anyM (fun k => m_I S 36 (4 * i + k)) v 0 4) := fun v => by
    unfold fX7_hasMark
    rw [show (0 : Int32) = nI 0 by decide, hasMark_2 n1 n5 n6 n7 4 FU 0 (by omega) (by unfold FU; omega), anyM_c 4 0 (fun k _ hk => n8 k (by omega))]
  unfold fX7_told fX7_told_21 fX7_told_50 ndV
  rw [if_pos n1, hm, Option.bind_some, hm, Option.bind_some, if_pos n1, if_pos n1, n3, n4, i32_m2]
  cases anyM (fun k => m_I S 36 (4 * i + k)) 1 0 4
  · rw [if_pos rfl, if_pos rfl]; rfl
  · rw [if_neg tf]
    cases anyM (fun k => m_I S 36 (4 * i + k)) 2 0 4
    · rw [if_pos rfl, if_pos rfl]; rfl
    · rw [if_neg tf, if_neg (by decide)]; rfl
/-- node -/
theorem call_node {K : Nat} (H0 : RR mo t K h S) (x : Int32) : Agr mo t K [eI] (fX8_node h t x) (fX9_node S x) := by
  obtain ⟨c, s, n, G, N, P, gm, nd, gl, nl, ol, kp, hP, H⟩ := id H0
  have h60 := H.N60
  unfold fX8_node fX9_node fX9_node_14
  rw [if_pos H.1.1, isNode_X9 H, Option.bind_some]
  rcases twigOf_X8 H x with ⟨g, hg, rfl, e⟩ | ⟨e1, e⟩
  · refine Agr.same H0 (fun n => Sq.f) (v := ndV S N g) (S2 := ms_i S 47 0) ?_ ?_ i47
    · rw [e, Option.bind_some, xcs_1]
      dsimp only
      rw [Option.bind_some, if_pos (H.nm hg).1, told_X7 H hg, Option.bind_some]
    · rw [isN_nI hg (by omega), if_neg tf, fails_0, Option.bind_some]
      dsimp only
      rw [if_pos rfl]
      have e36 : m_i (ms_i S 47 0) 36 = nI N := by rw [mi_i, if_neg (by omega)]; exact H.2.2.2.2.1.2.2.1
      exact node_26 (S := ms_i S 47 0) h60 e36 (by omega) N FU 0 (by omega) (by unfold FU; omega)
  · rw [e1, if_pos rfl, e, Option.bind_some, xcs_2]
    exact Agr.err H0 (fun n => Sq.f) (j := 0) (E := eI) (b := 0) (S2 := ms_i S 47 1) rfl (by omega) rfl (by rw [fails_1]; rfl) i47
/-- a mark is set -/
theorem Rel.mrk (H : Rel u mo h S t c s n G N P gm nd gl nl ol kp) {i k : Nat} (hi : i < N) (hk : k < 4) (v : Int32) {S2 : MS} (e1 : m_i S2 = m_i S) (e2 : m_J S2 = m_J S) (e3 : ∀ a, a ≠ 36 → m_I S2 a = m_I S a) (e36 : ∀ j, m_I S2 36 j = if j = 4 * i + k then v else m_I S 36 j) : Rel u mo (s_I h (nd i + 1) k v) S2 t c s n G N P gm nd gl nl ol kp := by
  obtain ⟨n1, -, -, -, ⟨-, n6, -, -⟩, -⟩ := H.nm hi
  have A : Bx h (s_I h (nd i + 1) k v) := Bx.rf.I (Or.inr (Or.inl n6))
  have neI : ∀ a j, a ≠ nd i + 1 → t_I (s_I h (nd i + 1) k v) a j = t_I h a j := fun a j ha => by rw [I_sI, if_neg (fun z => ha z.1)]
  have nk : ∀ a, t_kd h a ≠ 9 → a ≠ nd i + 1 := fun a ha => kd_ne (h := h) (by omega)
  have np : ∀ a, t_kd h a ≠ 6 → t_kd h (a + 1) = 9 → a + 1 ≠ nd i + 1 := fun a ha _ e => by
    have : a = nd i := by omega
    rw [this] at ha
    exact ha n1
  have Gq1 : ∀ l, Gq S S2 l := fun l x _ => by rw [e3 9 (by omega), e3 5 (by omega), e3 6 (by omega), e3 8 (by omega)]; exact ⟨rfl, rfl, rfl, rfl⟩
  obtain ⟨h0, h1, ⟨a1, a2, a3, a4, a5, a6⟩, h3, h4, h5, h6⟩ := H
  have hkc : t_kd h c = 2 := h0.2.2.2.1.1
  have hk5 : t_kd h s = 5 := h0.2.2.2.2.1
  refine ⟨h0.bx A, ?_, ⟨a1, by rw [neI c 3 (nk _ (by omega))]; exact a2, by rw [e1]; exact a3, a4, a5, fun j hj => ?_⟩, ?_, ?_, ?_, h6⟩
  · have := h1.bx (h2 := s_I h (nd i + 1) k v) (neI c 1 (nk _ (by omega))) (fun a _ => neI (c + 1) a (np c (by omega) h0.2.2.2.1.2.1.2.1))
    unfold R1 at *
    rw [e1, e3 0 (by omega)]
    exact this
  · obtain ⟨b1, b2⟩ := a6 j hj
    have k3 := b1.k3
    have hp : PM u (s_I h (nd i + 1) k v) S P (gm j) j (gl j) := b2.bx A k3 rfl (fun k _ => neI _ _ (np _ (by omega) b2.2.2.2.2.2.2.2.1))
    have hg : GM (s_I h (nd i + 1) k v) S n (gm j) j := b1.bx A (neI _ _ (nk _ (by omega))) (neI _ _ (nk _ (by omega))) (fun k' j' hk2 _ => neI _ _ (nk _ (by have := (b1.2.2.2.2.2.2.2.2.2.2.2 k' hk2).1; omega)))
    exact ⟨hg.cg (fun a b1 b2 => by rw [e3 a (by omega)]) (fun k _ => by rw [e3 14 (by omega), e3 15 (by omega)]; exact ⟨rfl, rfl⟩) (by rw [e3 16 (by omega)]), hp.cg (Nat.le_refl _) (fun a ha => by rw [e3 a (by omega)]) (fun L _ => by rw [e2, e3 20 (by omega)]; exact ⟨rfl, rfl, rfl⟩)⟩
  · have := h3.bx A (fun i hi => (a6 i hi).1.k3) (neI c 5 (nk _ (by omega))) (fun j => rfl)
    unfold R3 Ord Rky at *
    rw [e1, e3 17 (by omega), e3 8 (by omega), e3 9 (by omega), e3 10 (by omega), e3 1 (by omega), e3 2 (by omega)]
    obtain ⟨b1, b2, b3, b4, b5, b6, b7, b8, b9, b10, b11⟩ := this
    refine ⟨b1, b2, b3, b4, b5, b6, b7, b8, b9, b10, fun b hb => ?_⟩
    rw [stdF_q (Gq1 ol) (by rw [e3 0 (by omega)])]
    exact b11 b hb
  · obtain ⟨c1, c2, c3, c4, c5, c6, c7⟩ := h4
    refine ⟨c1, by rw [neI s 2 (nk _ (by omega))]; exact c2, by rw [e1]; exact c3, c4, c5, by rw [e3 28 (by omega), e3 30 (by omega)]; exact c6, fun j hj => ?_⟩
    have hNM := c7 j hj
    have hnm : NM (s_I h (nd i + 1) k v) S G N nd gl nl j → NM (s_I h (nd i + 1) k v) S G N nd gl nl j := id
    obtain ⟨m1, m2, m3, m4, ⟨m5, m6, m7, m8⟩, m9, rt, g, m10⟩ := hNM
    have q6 : ∀ k', t_I (s_I h (nd i + 1) k v) (nd j) k' = t_I h (nd j) k' := fun k' => neI _ _ (nk _ (by omega))
    unfold NM
    rw [e3 28 (by omega), e3 29 (by omega), e3 30 (by omega), e3 31 (by omega), e3 32 (by omega), e3 33 (by omega), e2]
    refine ⟨m1, by rw [q6]; exact m2, by rw [q6]; exact m3, by rw [q6]; exact m4, ⟨m5, m6, m7, fun k' hk' => ?_⟩, m9, rt, g, ?_⟩
    · rw [e36]
      by_cases hij : j = i
      · subst hij
        by_cases hkk : k' = k
        · subst hkk; rw [I_sI, if_pos ⟨rfl, rfl⟩, if_pos rfl]
        · rw [I_sI, if_neg (fun z => hkk z.2), if_neg (by omega)]; exact m8 k' hk'
      · have hne : nd j ≠ nd i := fun e => hij (c5 j i hj hi e)
        rw [neI _ _ (by omega), if_neg (by omega)]; exact m8 k' hk'
    · have eb : ∀ g, bg S2 g = bg S g := fun g => by unfold bg; rw [e3 7 (by omega)]
      rw [q6, q6, eb]
      obtain ⟨d1, d2, d3, d4, d5, d6, ⟨q, d7, d8⟩, d9⟩ := m10
      exact ⟨d1, d2, d3, d4, d5, d6, ⟨q, d7, WH.bx A _ q d8⟩, d9⟩
  · refine ⟨by rw [e1]; exact h5.1, h5.2.1, ⟨fun j b1 b2 => by rw [e3 8 (by omega), e3 9 (by omega), e3 12 (by omega), e3 13 (by omega)]; exact h5.2.2.1 j b1 b2, fun j k' b1 b2 b3 => by rw [e36, if_neg (by omega)]; exact h5.2.2.2 j k' b1 b2 b3⟩⟩
/-- mark -/
theorem call_mark {K : Nat} (H0 : RR mo t K h S) (x y z : Int32) : Agr mo t K [eI, eA] (fX8_mark h t x y z) (fX9_mark S x y z) := by
  obtain ⟨c, s, n, G, N, P, gm, nd, gl, nl, ol, kp, hP, H⟩ := id H0
  have h60 := H.N60
  have hR : (decide ((0 : Int32) ≤ y) && decide (y ≤ 3)) = inR y 0 3 := rfl
  have hR2 : (decide ((0 : Int32) ≤ z) && decide (z ≤ 3)) = inR z 0 3 := rfl
  have err : ∀ r8, r8 = some (.inr (eI, h)) → Agr mo t K [eI, eA] r8 (fX9_mark_22 S x y z 0) := fun r8 h8 =>
    Agr.err H0 (fun n => Sq.f) (j := 0) (E := eI) (b := 0) (S2 := ms_i S 47 1) rfl (by omega) h8 (by unfold fX9_mark_22 fX9_mark_48; rw [if_pos rfl, fails_1]; rfl) i47
  unfold fX8_mark fX9_mark
  rw [if_pos H.1.1, isNode_X9 H, Option.bind_some]
  rcases twigOf_X8 H x with ⟨g, hg, rfl, e⟩ | ⟨e1, e⟩
  · rw [isN_nI hg (by omega), if_neg tf, e, Option.bind_some, xcs_1, isIn_X9, Option.bind_some, hR]
    dsimp only
    by_cases hy0 : y < 0
    · have : inR y 0 3 = false := by unfold inR; rw [decide_eq_false (Int32.not_le.mpr hy0)]; rfl
      rw [if_pos hy0, this, if_pos rfl]
      exact err _ rfl
    · obtain ⟨k, hk, rfl⟩ := nI_of hy0
      by_cases hk4 : k < 4
      · have hin : inR (nI k) 0 3 = true := by
          unfold inR
          rw [decide_eq_true (show (0 : Int32) ≤ nI k from nI_pos' hk), decide_eq_true (show nI k ≤ (3 : Int32) from nI_le (b := 3) (by omega) (by omega))]; rfl
        rw [if_neg hy0, if_pos (show nI k < (4 : Int32) from nI_lt (b := 4) hk4 (by omega)), hin, if_neg tf, range_X8, Option.bind_some]
        unfold fX9_mark_22
        rw [if_neg (show ¬ ((1 : Int32) = 0) by decide), isIn_X9, Option.bind_some, hR2]
        cases hz : inR z 0 3
        · rw [if_neg ff, xcs_2, if_pos rfl]
          exact Agr.err H0 (fun n => Sq.f) (j := 1) (E := eA) (b := 0) (S2 := ms_i S 47 2) rfl (by omega) rfl (by unfold fX9_mark_48; rw [fails_2]; rfl) i47
        · obtain ⟨n1, -, -, -, ⟨n5, n6, n7, n8⟩, -⟩ := H.nm hg
          rw [if_pos rfl, xcs_1, if_neg tf, Option.bind_some, if_pos n1]
          have hc : fX7_changeMark h (nd g) (nI k) z = some (m_I S 36 (4 * g + k), s_I h (nd g + 1) k z) := by
            unfold fX7_changeMark
            rw [if_neg hy0, if_pos n1, n5, Option.bind_some, if_pos n6, n7, if_pos (nI_lt hk4 (by omega)), if_pos (xin_nI hk4 (by omega)), if_pos (xin_nI hk4 (by omega)), clp (by omega), n8 k hk4]
          rw [hc, Option.bind_some]
          have h9 : fX9_mark_48 S (nI g) (nI k) z 0 = some (m_I S 36 (4 * g + k), ms_I (ms_i S 47 0) 36 (4 * g + k) z) := by
            unfold fX9_mark_48
            rw [fails_0, Option.bind_some]
            dsimp only
            rw [if_pos rfl, i32_4, pk_mul, nI_add, if_pos (xin_nI (by omega) (by omega)), clp (show 4 * g + k < 2 ^ 31 by omega), mI_i]
          rw [h9]
          have hs : Sq n S (ms_i S 47 0) := Sq.f
          have hrel := (H.sq hs).mrk hg hk4 z (S2 := ms_I (ms_i S 47 0) 36 (4 * g + k) z) rfl rfl (fun a ha => by funext j; rw [mI_I, if_neg (fun z => ha z.1)]) (fun j => by rw [mI_I]; simp)
          exact ⟨_, _, ⟨c, s, n, G, N, P, gm, nd, gl, nl, ol, kp, by omega, hrel⟩, Or.inl ⟨_, rfl, rfl, i47 (S := S)⟩⟩
      · have hin : inR (nI k) 0 3 = false := by
          unfold inR
          rw [decide_eq_false (show ¬ nI k ≤ (3 : Int32) from nI_ge (a := 3) (by omega) hk), Bool.and_false]
        rw [if_neg hy0, if_neg (show ¬ nI k < (4 : Int32) from nI_nlt (b := 4) (by omega) hk), hin, if_pos rfl]
        exact err _ rfl
  · rw [e1, if_pos rfl, e, Option.bind_some, xcs_2]
    exact err _ rfl
end NODES
