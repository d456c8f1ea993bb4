/-! P26 18: branches; a node's step. -/
section BRANCH
variable {lo : Nat} {h : TH} {S L : MS} {t c s n G N P Q J : Nat} {gm nd : Nat → Nat} {gl nl : Nat → List BW} {ol : List Nat} {kp : Nat → Bool}
variable {Ls : Nat} {xs : Nat → Int32} {K : Int32 → TH → MS → Prop}
/-- the last node of the law's rows that fits -/
def fnd (L : MS) (A B : Int32) : Nat → Int32
  | 0 => -1
  | k + 1 => if m_I L 8 k - m_I L 8 k / 64 * 64 = A ∧ m_I L 8 k / 64 = B then nI k else fnd L A B k
theorem node_290 {x v a11 : Int32} (hN : N ≤ 60) (h7 : m_I L 7 4 = nI N)
    (kk : gL_does lo t Ls xs (fun v3 h4 L5 => (if a11 = 0 then gL_isNode_404 lo t Ls xs K h4 L5 v a11 (fnd L (x + 1) (v + 2) N) v3 else (if 0 ≤ fnd L (x + 1) (v + 2) N then gL_isNode_404 lo t Ls xs K h4 L5 v a11 (fnd L (x + 1) (v + 2) N) v3 else (if v3 = (m_I L5 7 (4 : Int32).toNatClampNeg) then (xin v3 60 = true ∧ (∃ W11, (ms_I L5 8 v3.toNatClampNeg ((x + (1 : Int32)) + ((64 : Int32) * (v + (2 : Int32))))) = W11 ∧ (∃ W12, (ms_I (ms_I W11 9 v3.toNatClampNeg (0 : Int32)) 7 (4 : Int32).toNatClampNeg ((m_I (ms_I W11 9 v3.toNatClampNeg (0 : Int32)) 7 (4 : Int32).toNatClampNeg) + (1 : Int32))) = W12 ∧ K (1 : Int32) h4 W12))) else gL_isNode_404 lo t Ls xs K h4 L5 v a11 (fnd L (x + 1) (v + 2) N) v3)))) h L (7 : Int32) x v (0 : Int32) (0 : Int32) (0 : Int32)) :
    ∀ (d fu j : Nat), j + d = N → d < fu → gL_isNode_290 lo t Ls xs K fu h L x v a11 (fnd L (x + 1) (v + 2) j) (nI j) := by
  have e4 : (4 : Int32).toNatClampNeg = 4 := by decide
  intro d
  induction d with
  | zero =>
    intro fu j hj hf
    obtain ⟨f, rfl⟩ : ∃ f, fu = f + 1 := ⟨fu - 1, by omega⟩
    obtain rfl : j = N := by omega
    rw [gL_isNode_290, if_pos (by rw [e4, h7]; exact nI_le (Nat.le_refl _) (by omega))]
    exact kk
  | succ d ih =>
    intro fu j hj hf
    obtain ⟨f, rfl⟩ : ∃ f, fu = f + 1 := ⟨fu - 1, by omega⟩
    have h2 := ih f (j + 1) (by omega) (by omega)
    rw [show fnd L (x + 1) (v + 2) (j + 1) = if m_I L 8 j - m_I L 8 j / 64 * 64 = x + 1 ∧ m_I L 8 j / 64 = v + 2 then nI j else fnd L (x + 1) (v + 2) j from rfl] at h2
    rw [gL_isNode_290, if_neg (by rw [e4, h7]; exact nI_ge (by omega) (by omega)), clp (show j < 2 ^ 31 by omega)]
    refine ⟨xin_nI (by omega) (by omega), ?_⟩
    unfold gL_isNode_333
    rw [nI_1]
    by_cases q1 : m_I L 8 j - m_I L 8 j / 64 * 64 = x + 1
    · rw [if_pos q1]
      by_cases q2 : m_I L 8 j / 64 = v + 2
      · rw [if_pos q2]
        rw [if_pos ⟨q1, q2⟩] at h2
        exact h2
      · rw [if_neg q2]
        rw [if_neg (fun z => q2 z.2)] at h2
        exact h2
    · rw [if_neg q1]
      rw [if_neg (fun z => q1 z.1)] at h2
      exact h2
theorem fnd_eq (H : Rel 16 lo h S t c s n G N P gm nd gl nl ol kp) (T : LT S L J n G ol.length Q N P) {i : Nat} (hi : i < N) {v : Int32} (hv : v = -1 ∨ ∃ p, p < 49 ∧ v = nI p) : ∀ j, j ≤ N → fnd L (nI i + 1) (v + 2) j = chF S i v j := by
  have h60 := H.N60
  intro j
  induction j with
  | zero => intro _; rfl
  | succ j ih =>
    intro hj
    obtain ⟨pa, mv, hpa, hmv, -, -, e8, f1, f2, f3⟩ := nnum H T (show j < N by omega)
    have r1 : m_I L 8 j - m_I L 8 j / 64 * 64 = nI pa := by rw [e8, i32_64, pk_rem (by omega) (by omega) (by omega)]; congr 1; omega
    have r2 : m_I L 8 j / 64 = nI mv := by rw [e8, i32_64, pk_div (by omega) (by omega) (by omega)]; congr 1; omega
    have c1 : (nI pa = nI i + 1) ↔ m_I S 28 j = nI i := by
      rw [nI_1, nI_eq (by omega) (by omega)]; exact (f1 i (by omega)).symm
    have c2 : (nI mv = v + 2) ↔ m_I S 30 j = v := by
      rcases hv with rfl | ⟨p, hp, rfl⟩
      · rw [show (-1 : Int32) + 2 = nI 1 by decide, nI_eq (by omega) (by omega)]; exact f3.symm
      · rw [i32_2, nI_add, nI_eq (by omega) (by omega)]; exact (f2 p hp).symm
    unfold fnd chF
    rw [r1, r2, ih (by omega)]
    by_cases q : m_I S 28 j = nI i ∧ m_I S 30 j = v
    · rw [if_pos ⟨c1.mpr q.1, c2.mpr q.2⟩, if_pos q]
    · rw [if_neg (fun z => q ⟨c1.mp z.1, c2.mp z.2⟩), if_neg q]
theorem node_429 {pt a11 a12 s0 s1 : Int32} {h : TH} {L : MS} (e : s0 = s1) (hh : 0 ≤ a12 ∨ a11 = 0 ∨ ¬ pt < 0) (k : K 1 h L) : gL_isNode_429 lo t Ls xs K h L pt a11 a12 s0 s1 := by
  unfold gL_isNode_429
  rw [if_pos e]
  by_cases q1 : 0 ≤ a12
  · rw [if_pos q1]; exact k
  · rw [if_neg q1]
    by_cases q2 : a11 = 0
    · rw [if_pos q2]; exact k
    · rw [if_neg q2, if_neg (by rcases hh with z | z | z; exact absurd z q1; exact absurd z q2; exact z)]; exact k
theorem branch_80 {Sx : MS} {i N : Nat} {v : Int32} (h36 : m_i Sx 36 = nI N) (hN : N < 60) (hi : i < N) : ∃ b w sd rt, fX9_branch_80 Sx (nI i) v (-1) 0 = some (nI N, mkS (ms_i Sx 47 0) N (nI i) v b w sd rt) := by
  unfold fX9_branch_80
  rw [fails_0, Option.bind_some]
  dsimp only
  rw [if_pos rfl, if_pos rfl, if_pos (xin_nI (show i < 60 by omega) (by omega)), clp (show i < 2 ^ 31 by omega), makes_X9 (rt := m_I (ms_i Sx 47 0) 29 i) (show m_i (ms_i Sx 47 0) 36 = nI N by rw [mi_i, if_neg (by omega)]; exact h36) hN (Or.inr ⟨i, by omega, rfl, by omega, rfl⟩), Option.bind_some]
  exact ⟨_, _, _, _, rfl⟩
theorem branch_lt (H : Rel 16 lo h S t c s n G N P gm nd gl nl ol kp) (T : LT S L J n G ol.length Q N P) (hN : N ≤ 50) {S1 : MS} (hs : ∀ n, Sq n S S1) {i : Nat} {v : Int32} {b w : Int64} {sd rt : Int32} : LT (mkS (ms_i S1 47 0) N (nI i) v b w sd rt) (ndW L N (nI i + 1 + 64 * (v + 2))) (J + 1) n G ol.length Q (N + 1) P := by
  have h0 := hs 0
  have sI : ∀ a j, m_I (mkS (ms_i S1 47 0) N (nI i) v b w sd rt) a j = if a = 29 ∧ j = N then rt else if a = 33 ∧ j = N then sd else if a = 30 ∧ j = N then v else if a = 28 ∧ j = N then nI i else m_I S1 a j := fun a j => by rw [mkS_I, mI_i]
  have si : ∀ k, m_i (mkS (ms_i S1 47 0) N (nI i) v b w sd rt) k = if k = 36 then nI (N + 1) else if k = 47 then 0 else m_i S1 k := fun k => by rw [mkS_i, mi_i]
  have sJ : ∀ a, a ≤ 19 → m_J (mkS (ms_i S1 47 0) N (nI i) v b w sd rt) a = m_J S1 a := fun a ha => by
    funext j
    rw [mkS_J, if_neg (by omega), if_neg (by omega), mJ_i]
  generalize mkS (ms_i S1 47 0) N (nI i) v b w sd rt = S2 at sI si sJ ⊢
  have u1 : ∀ a j, (a ≤ 27 ∨ 36 ≤ a ∨ j ≠ N) → m_I S2 a j = m_I S1 a j := fun a j hj => by
    rw [sI, if_neg (by omega), if_neg (by omega), if_neg (by omega), if_neg (by omega)]
  refine T.more H hN (fun a j h1 h2 h3 h4 h5 => by rw [u1 a j h1, h0.2.1 a h3 h4 h5 h2]) (fun a ha => by rw [u1 1 a (by omega), u1 2 a (by omega)]; exact h0.ranks ha) (fun a ha => by rw [sJ a ha]; exact h0.J' a (by omega)) (fun k hk => by rw [si, if_neg (by omega), if_neg (by omega)]; exact h0.i' k (by omega)) (by rw [si, if_pos rfl]) ?_
  rw [sI 28, if_neg (by omega), if_neg (by omega), if_neg (by omega), if_pos ⟨rfl, rfl⟩, sI 30, if_neg (by omega), if_neg (by omega), if_pos ⟨rfl, rfl⟩]
theorem branch_ok (hJ : J ≤ 60) (hP : P ≤ J) (H : Rel 16 lo h S t c s n G N P gm nd gl nl ol kp) (T : LT S L J n G ol.length Q N P) {i : Nat} {v : Int32} (hi : i ≤ N) (hv : v = -1 ∨ ∃ p, p < 50 ∧ v = nI p) (k : ∀ h2 S2 L2, Tie lo t (J + 1) h2 S2 L2 → K 1 h2 L2) : gL_isNode_232 lo t Ls xs K h L (nI i) v := by
  have h60 := H.N60
  have hT7 := T.2.2.1
  have hN51 := T.2.1.2.2.2.1
  have h36 : m_i S 36 = nI N := H.2.2.2.2.1.2.2.1
  have e4 : (4 : Int32).toNatClampNeg = 4 := by decide
  have A := call_branch (K := J) (by omega) (Tie.rr H hP) (nI i) v
  have sq : ∀ w : Int32, LT (ms_i S 47 w) L (J + 1) n G ol.length Q N P := fun w => T.sq (Nat.le_succ J) (fun n => Sq.f)
  have e284 : ∀ a11 : Int32, gL_does lo t Ls xs (fun v3 h4 L5 => (if a11 = 0 then gL_isNode_404 lo t Ls xs K h4 L5 v a11 (fnd L (nI i + 1) (v + 2) N) v3 else (if 0 ≤ fnd L (nI i + 1) (v + 2) N then gL_isNode_404 lo t Ls xs K h4 L5 v a11 (fnd L (nI i + 1) (v + 2) N) v3 else (if v3 = (m_I L5 7 (4 : Int32).toNatClampNeg) then (xin v3 60 = true ∧ (∃ W11, (ms_I L5 8 v3.toNatClampNeg ((nI i + (1 : Int32)) + ((64 : Int32) * (v + (2 : Int32))))) = W11 ∧ (∃ W12, (ms_I (ms_I W11 9 v3.toNatClampNeg (0 : Int32)) 7 (4 : Int32).toNatClampNeg ((m_I (ms_I W11 9 v3.toNatClampNeg (0 : Int32)) 7 (4 : Int32).toNatClampNeg) + (1 : Int32))) = W12 ∧ K (1 : Int32) h4 W12))) else gL_isNode_404 lo t Ls xs K h4 L5 v a11 (fnd L (nI i + 1) (v + 2) N) v3)))) h L (7 : Int32) (nI i) v (0 : Int32) (0 : Int32) (0 : Int32) → gL_isNode_284 lo t Ls xs K h L (nI i) v a11 := fun a11 kk => by
    unfold gL_isNode_284
    exact node_290 (x := nI i) (v := v) h60 hT7.2.2.2.2 kk N FU 0 (by omega) (FU_lt (by omega))
  by_cases qt : i < N ∧ (v = -1 ∨ ∃ p, p < 49 ∧ v = nI p)
  · obtain ⟨qi, qv⟩ := qt
    have hfnd := fnd_eq H T qi qv N (Nat.le_refl _)
    have w254 : gL_isNode_254 lo t Ls xs K h L (nI i) v 1 := by
      unfold gL_isNode_254
      rw [e4, hT7.2.2.2.2]
      by_cases q50 : N ≤ 50
      · rw [if_pos (n_le 50 50 (by decide) q50 (by omega))]
        refine e284 1 (does_7 ?_)
        rw [hfnd]
        have e9 : fX9_branch S (nI i) v = fX9_branch_40 S (nI i) v 1 (chF S i v N) := by
          have e25 : fX9_branch_25 S (nI i) v 1 = fX9_branch_40 S (nI i) v 1 (chF S i v N) := by
            unfold fX9_branch_25
            rw [if_neg (by decide), child_X9 H, Option.bind_some]
          unfold fX9_branch
          rw [isNode_X9 H, Option.bind_some, isN_nI qi (by omega), if_neg tf]
          rcases qv with rfl | ⟨p, hp, rfl⟩
          · rw [if_pos rfl]; exact e25
          · rw [if_neg (nI_nm1 (by omega)), isPoint_X9, Option.bind_some, isN_nI hp (by omega), if_neg tf]; exact e25
        rcases chF_s (S := S) (pr := i) (v := v) N with ⟨j, hj, -, -, ej⟩ | ⟨hno, ej⟩
        · rw [ej] at e9 ⊢
          unfold fX9_branch_40 fX9_branch_80 at e9
          rw [if_neg (by decide), if_neg (nI_nm1 (by omega)), fails_0, Option.bind_some] at e9
          dsimp only at e9
          rw [if_pos rfl, if_neg (nI_nm1 (by omega))] at e9
          refine DX.ok H.1.1 A e9 (i47 (S := S)) fun h2 R => ?_
          rw [if_neg (by decide), if_pos (nI_pos' (by omega))]
          unfold gL_isNode_404
          rw [if_neg (by decide), if_neg (nI_pos (by omega))]
          exact node_429 rfl (Or.inl (nI_pos' (by omega))) (k h2 _ _ (Tie.mk' (by omega) R (sq 0)))
        · rw [ej] at e9 ⊢
          unfold fX9_branch_40 at e9
          rw [if_neg (by decide), if_pos rfl, h36, if_neg (fun e => by have := (n_eq 60 60 (by decide) (by omega) (by omega)).mp e; omega)] at e9
          -- a new node
          have yes : ∀ S1, fX9_canBranch S (nI i) v = some (true, S1) → (∀ n, Sq n S S1) → DX lo t h L (fun v3 h4 L5 => (if (1 : Int32) = 0 then gL_isNode_404 lo t Ls xs K h4 L5 v 1 (-1) v3 else (if (0 : Int32) ≤ -1 then gL_isNode_404 lo t Ls xs K h4 L5 v 1 (-1) v3 else (if v3 = (m_I L5 7 (4 : Int32).toNatClampNeg) then (xin v3 60 = true ∧ (∃ W11, (ms_I L5 8 v3.toNatClampNeg ((nI i + (1 : Int32)) + ((64 : Int32) * (v + (2 : Int32))))) = W11 ∧ (∃ W12, (ms_I (ms_I W11 9 v3.toNatClampNeg (0 : Int32)) 7 (4 : Int32).toNatClampNeg ((m_I (ms_I W11 9 v3.toNatClampNeg (0 : Int32)) 7 (4 : Int32).toNatClampNeg) + (1 : Int32))) = W12 ∧ K (1 : Int32) h4 W12))) else gL_isNode_404 lo t Ls xs K h4 L5 v 1 (-1) v3)))) (fX8_branch h t (nI i) v) := fun S1 hc hs => by
            rw [hc, Option.bind_some] at e9
            dsimp only at e9
            rw [if_neg tf] at e9
            obtain ⟨b, w, sd, rt, e80⟩ := branch_80 (Sx := S1) (i := i) (N := N) (v := v) (((hs 0).i' 36 (by omega)).trans h36) (by omega) qi
            rw [e80] at e9
            refine DX.ok H.1.1 A e9 (by rw [mkS_i, if_neg (by omega)]; exact i47) fun h2 R => ?_
            rw [if_neg (by decide), if_neg (by decide), e4, hT7.2.2.2.2, if_pos rfl, clp (show N < 2 ^ 31 by omega)]
            refine ⟨xin_nI (by omega) (by omega), _, rfl, _, rfl, ?_⟩
            rw [ndW_eq hT7.2.2.2.2]
            exact k h2 _ _ (Tie.mk' (by omega) R (branch_lt H T q50 hs))
          have no : ∀ p, v = nI p → p < 49 → (∃ S1, fX9_canBranch S (nI i) v = some (false, S1) ∧ ∀ n, Sq n S S1) → DX lo t h L (fun v3 h4 L5 => (if (1 : Int32) = 0 then gL_isNode_404 lo t Ls xs K h4 L5 v 1 (-1) v3 else (if (0 : Int32) ≤ -1 then gL_isNode_404 lo t Ls xs K h4 L5 v 1 (-1) v3 else (if v3 = (m_I L5 7 (4 : Int32).toNatClampNeg) then (xin v3 60 = true ∧ (∃ W11, (ms_I L5 8 v3.toNatClampNeg ((nI i + (1 : Int32)) + ((64 : Int32) * (v + (2 : Int32))))) = W11 ∧ (∃ W12, (ms_I (ms_I W11 9 v3.toNatClampNeg (0 : Int32)) 7 (4 : Int32).toNatClampNeg ((m_I (ms_I W11 9 v3.toNatClampNeg (0 : Int32)) 7 (4 : Int32).toNatClampNeg) + (1 : Int32))) = W12 ∧ K (1 : Int32) h4 W12))) else gL_isNode_404 lo t Ls xs K h4 L5 v 1 (-1) v3)))) (fX8_branch h t (nI i) v) := fun p ep hp ⟨S1, hc, hs⟩ => by
            rw [hc, Option.bind_some] at e9
            dsimp only at e9
            rw [if_pos rfl] at e9
            unfold fX9_branch_80 at e9
            rw [fails_2, Option.bind_some] at e9
            refine DX.ex H.1.1 A csIS (e9.trans rfl) (j := 1) (E := eS) (by omega) (i47 (S := S1)) rfl fun h2 R => ?_
            rw [cod_S, if_neg (by decide), if_neg (by decide), e4, hT7.2.2.2.2, if_neg (fun e => absurd (show nI N < 0 by rw [← e]; decide) (nI_pos (by omega)))]
            unfold gL_isNode_404
            rw [if_neg (by decide), if_pos (by decide)]
            exact node_429 rfl (Or.inr (Or.inr (by rw [ep]; exact nI_pos (by omega)))) (k h2 _ _ (Tie.mk' (by omega) R (T.sq (Nat.le_succ J) (fun n => (hs n).tr Sq.f))))
          rcases qv with rfl | ⟨p, hp, rfl⟩
          · have hc : fX9_canBranch S (nI i) (-1) = some (true, ms_j (ms_j S 25 (m_J S 34 i)) 26 (m_J S 35 i)) := by
              unfold fX9_canBranch
              rw [if_pos (xin_nI (show i < 60 by omega) (by omega)), if_pos rfl, clp (show i < 2 ^ 31 by omega), Option.bind_some]
            exact yes _ hc (fun n => Sq.j.tr Sq.j)
          · obtain ⟨rt, hrt, r29, -, gG, r31, -, ⟨q, q5, qW⟩, r34, r33, -⟩ := H.node_g qi
            obtain ⟨x, l, hl⟩ : ∃ x l, nl i = x :: l := by
              cases hl : nl i with
              | nil => rw [hl] at r34; cases r34
              | cons x l => exact ⟨x, l, rfl⟩
            obtain ⟨r1, r2⟩ := canBranch_X9 H (by omega) qi hp hl
            by_cases hok : okM x (m_I S 33 i) p (nl i)
            · exact yes _ (r1 hok) (fun n => Sq.put)
            · exact no p rfl hp (r2 hok)
      · rw [if_neg (n_ge 50 50 (by decide) (by omega) (by omega)), if_neg (by decide)]
        refine ⟨H.1.1, _, _, rd_node H qi, H.ld, ?_⟩
        rw [if_neg (ndV_pos H T qi)]
        exact k h S L (Tie.same hP H T)
    unfold gL_isNode_232
    rw [e4, hT7.2.2.2.2, if_neg (nI_ge qi (by omega))]
    rcases qv with rfl | ⟨p, hp, rfl⟩
    · rw [if_neg (by decide)]; exact w254
    · rw [if_neg (ge_n 49 49 (by decide) hp (by omega))]; exact w254
  · have e9 : fX9_branch S (nI i) v = some (0, ms_i S 47 1) := by
      have e25 : fX9_branch_25 S (nI i) v 0 = some (0, ms_i S 47 1) := by
        unfold fX9_branch_25
        rw [if_pos rfl]
        unfold fX9_branch_40
        rw [if_pos rfl]
        unfold fX9_branch_80
        rw [fails_1]; rfl
      unfold fX9_branch
      rw [isNode_X9 H, Option.bind_some]
      by_cases qi : i < N
      · rw [isN_nI qi (by omega), if_neg tf]
        rcases hv with rfl | ⟨p, hp, rfl⟩
        · exact absurd ⟨qi, Or.inl rfl⟩ qt
        · have hp49 : p = 49 := by
            rcases Nat.lt_or_ge p 49 with z | z
            · exact absurd ⟨qi, Or.inr ⟨p, z, rfl⟩⟩ qt
            · omega
          subst hp49
          rw [if_neg (nI_nm1 (by omega)), isPoint_X9, Option.bind_some, isN_end (by omega), if_pos rfl, e25]
      · obtain rfl : i = N := by omega
        rw [isN_end (by omega), if_pos rfl, e25]
    have w284 : gL_isNode_284 lo t Ls xs K h L (nI i) v 0 := by
      refine e284 0 (does_7 (DX.ex H.1.1 A csIS e9 (j := 0) (E := eI) (by omega) i47 rfl fun h2 R => ?_))
      rw [cod_I, if_pos rfl]
      unfold gL_isNode_404
      rw [if_pos rfl]
      exact node_429 rfl (Or.inr (Or.inl rfl)) (k h2 _ _ (Tie.mk' (by omega) R (sq 1)))
    have w254 : gL_isNode_254 lo t Ls xs K h L (nI i) v 0 := by
      unfold gL_isNode_254
      rw [if_pos rfl, ite_self]; exact w284
    unfold gL_isNode_232
    rw [e4, hT7.2.2.2.2]
    by_cases qi : i < N
    · rw [if_neg (nI_ge qi (by omega))]
      rcases hv with rfl | ⟨p, hp, rfl⟩
      · exact absurd ⟨qi, Or.inl rfl⟩ qt
      · have hp49 : p = 49 := by
          rcases Nat.lt_or_ge p 49 with z | z
          · exact absurd ⟨qi, Or.inr ⟨p, z, rfl⟩⟩ qt
          · omega
        rw [if_pos (le_n 49 49 (by decide) (by omega) (by omega))]; exact w254
    · rw [if_pos (nI_le (by omega) (by omega))]; exact w254
/-- a node's step -/
theorem isNode_ok (hJ : J ≤ 60) (hP : P ≤ J) (H : Rel 16 lo h S t c s n G N P gm nd gl nl ol kp) (T : LT S L J n G ol.length Q N P) {w one two three : Nat} (hw : w < 3) (h1 : one < 10000) (h2 : two < 10000) (h3 : three < 10000) (k : ∀ h2 S2 L2, Tie lo t (J + 1) h2 S2 L2 → K 1 h2 L2) : gL_isNode lo t Ls xs K h L (nI w) (nI one) (nI two) (nI three) := by
  have h16 := H.G16
  have h60 := H.N60
  have hT7 := T.2.2.1
  have e4 : (4 : Int32).toNatClampNeg = 4 := by decide
  have e1 : (1 : Int32).toNatClampNeg = 1 := by decide
  have rem : ∀ a d : Nat, a < 10000 → 0 < d → d < 10000 → nI a - nI a / nI d * nI d = nI (a % d) := fun a d ha hd hd2 => pk_rem (by omega) hd (by omega)
  have w26 : ∀ i, i ≤ N → gL_isNode_26 lo t Ls xs K h L (nI w) (nI two) (nI three) (nI i) := fun i hi => by
    unfold gL_isNode_26
    have : w = 0 ∨ w = 1 ∨ w = 2 := by omega
    rcases this with rfl | rfl | rfl
    · rw [if_pos nI_0]
      have w59 : ∀ g, g ≤ G → gL_isNode_59 lo t Ls xs K h L (nI three) (nI g) := fun g hg => by
        unfold gL_isNode_59
        rw [e1, hT7.2.1]
        by_cases qg : g < G
        · obtain ⟨m, h12, hm, -⟩ := side_tie H T qg
          rw [if_neg (nI_ge qg (by omega)), clp (show g < 2 ^ 31 by omega), (T.2.2.2.2.1 g qg).1.2.2.2.2.2.2.2.2.1, h12, i32_2, nI_add, rem three (m + 2) h3 (by omega) (by omega)]
          have hmod : three % (m + 2) < m + 2 := Nat.mod_lt _ (by omega)
          exact ⟨xin_nI (by omega) (by omega), nI_ne0 (by omega) (by omega), lesson_ok hJ hP H T hg (by omega) k⟩
        · rw [if_pos (nI_le (by omega) (by omega))]
          exact lesson_ok hJ hP H T hg (mv := 0) (by omega) k
      have w47 : gL_isNode_47 lo t Ls xs K h L (nI three) := by
        unfold gL_isNode_47
        rw [e1, hT7.2.1]
        exact w59 G (Nat.le_refl _)
      by_cases q1 : nI two - nI two / 20 * 20 = 0
      · rw [if_pos q1]; exact w47
      · rw [if_neg q1, e1, hT7.2.1]
        by_cases q2 : nI G = 0
        · rw [if_pos q2]; exact w47
        · have hG0 : 0 < G := by
            rcases Nat.eq_zero_or_pos G with z | z
            · rw [z] at q2; exact absurd nI_0 q2
            · exact z
          rw [if_neg q2, rem two G h2 hG0 (by omega)]
          have hmod : two % G < G := Nat.mod_lt _ hG0
          exact ⟨q2, w59 _ (by omega)⟩
    · rw [if_neg (by decide), if_pos (show nI 1 = 1 from rfl)]
      by_cases q1 : nI two - nI two / 3 * 3 = 0
      · rw [if_pos q1]
        exact branch_ok hJ hP H T hi (Or.inl rfl) k
      · rw [if_neg q1, i32_3, pk_div (by omega) (by omega) (by omega), show (50 : Int32) = nI 50 from rfl, rem (two / 3) 50 (by omega) (by omega) (by omega)]
        have hmod : two / 3 % 50 < 50 := Nat.mod_lt _ (by omega)
        exact branch_ok hJ hP H T hi (Or.inr ⟨_, hmod, rfl⟩) k
    · rw [if_neg (by decide), if_neg (by decide), show (5 : Int32) = nI 5 from rfl, rem two 5 h2 (by omega) (by omega), rem three 5 h3 (by omega) (by omega)]
      have ht : two % 5 < 5 := Nat.mod_lt _ (by omega)
      have hk : three % 5 < 5 := Nat.mod_lt _ (by omega)
      generalize two % 5 = tc at ht ⊢
      have : tc = 0 ∨ tc = 1 ∨ tc = 2 ∨ tc = 3 ∨ tc = 4 := by omega
      rcases this with rfl | rfl | rfl | rfl | rfl
      · rw [if_pos nI_0]; exact mark_ok hJ hP H T (pw := 1) hi (by omega) hk rfl k
      · rw [if_neg (by decide), if_pos (show nI 1 = 1 from rfl)]; exact mark_ok hJ hP H T (pw := 4) hi (by omega) hk rfl k
      · rw [if_neg (by decide), if_neg (by decide), if_pos (show nI 2 = 2 from rfl)]; exact mark_ok hJ hP H T (pw := 16) hi (by omega) hk rfl k
      · rw [if_neg (by decide), if_neg (by decide), if_neg (by decide)]; exact mark_ok hJ hP H T (pw := 64) hi (by omega) hk rfl k
      · rw [if_neg (by decide), if_neg (by decide), if_neg (by decide)]; exact mark_ok hJ hP H T (pw := 64) hi (by omega) hk rfl k
  have w14 : gL_isNode_14 lo t Ls xs K h L (nI w) (nI two) (nI three) := by
    unfold gL_isNode_14
    rw [e4, hT7.2.2.2.2]
    exact w26 N (Nat.le_refl _)
  unfold gL_isNode
  by_cases q1 : nI one - nI one / 20 * 20 = 0
  · rw [if_pos q1]; exact w14
  · rw [if_neg q1, e4, hT7.2.2.2.2]
    by_cases q2 : nI N = 0
    · rw [if_pos q2]; exact w14
    · have hN0 : 0 < N := by
        rcases Nat.eq_zero_or_pos N with z | z
        · rw [z] at q2; exact absurd nI_0 q2
        · exact z
      rw [if_neg q2, rem one N h1 hN0 (by omega)]
      have hmod : one % N < N := Nat.mod_lt _ hN0
      exact ⟨q2, w26 _ (by omega)⟩
end BRANCH
