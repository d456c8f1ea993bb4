/-! P26 14: seconds, moves: both sides' rows. -/
def clS (S : MS) (q M p len z : Nat) : MS := ms_I (ms_I S 14 q (nI (clkM M z))) 15 q (nI (clkP M p len z))
theorem clS_I {S : MS} {q M p len z a j : Nat} : m_I (clS S q M p len z) a j = if a = 15 ∧ j = q then nI (clkP M p len z) else if a = 14 ∧ j = q then nI (clkM M z) else m_I S a j := rfl
theorem clS_n {S : MS} {q M p len z a : Nat} (h : a ≠ 14) (h2 : a ≠ 15) : m_I (clS S q M p len z) a = m_I S a := by funext j; rw [clS_I, if_neg (fun y => h2 y.1), if_neg (fun y => h y.1)]
theorem clS_i {S : MS} {q M p len z : Nat} : m_i (clS S q M p len z) = m_i S := rfl
theorem clS_J {S : MS} {q M p len z : Nat} : m_J (clS S q M p len z) = m_J S := rfl
theorem ms_I_same {S : MS} {a k : Nat} : ms_I S a k (m_I S a k) = S := by
  refine Prod.ext rfl (Prod.ext rfl (Prod.ext (funext fun b => funext fun j => ?_) rfl))
  show m_I (ms_I S a k (m_I S a k)) b j = m_I S b j
  rw [mI_I]
  split
  · rename_i h; rw [h.1, h.2]
  · rfl
theorem runsOut_9 {S : MS} {g m M p len z : Nat} (hg : g < 16) (hm : m < 5000) (h12 : m_I S 12 g = nI m) (hM : M ≤ 3600) (hp : p < 6) (h1 : 1 ≤ len) (h2 : len < 61) (hz : z ≤ 1000) (eM : m_I S 14 (2 * g + (bg S g + m) % 2) = nI M) (eP : m_I S 15 (2 * g + (bg S g + m) % 2) = nI p) (eL : m_I S 16 g = nI len) :
    fX9_runsOut S (nI g) (nI z) = some (clkB M p len z, clS S (2 * g + (bg S g + m) % 2) M p len z) := by
  have hs := sideOf_X9 (S := S) (g := g) (m := m) hg hm
  have hk : (bg S g + m) % 2 < 2 := Nat.mod_lt _ (by omega)
  generalize (bg S g + m) % 2 = k at hs hk eM eP ⊢
  have e2 : (2 : Int32) * nI g + nI k = nI (2 * g + k) := by rw [i32_2, pk_mul, nI_add]
  have hx32 := xin_nI (k := 2 * g + k) (n := 32) (by omega) (by omega)
  have hcl := clp (k := 2 * g + k) (by omega)
  have hd := div_le (a := z - M - 1) (b := len)
  unfold fX9_runsOut
  rw [if_pos (xin_nI hg (by omega)), clp (show g < 2 ^ 31 by omega), h12, hs, Option.bind_some, e2, if_pos hx32, hcl, eM]
  by_cases q : z ≤ M
  · rw [if_neg (nI_nlt q (by omega)), Option.bind_some, pk_sub q]
    have eb : clkB M p len z = false := by unfold clkB; rw [decide_eq_false (fun y => y q)]; rfl
    have es : clS S (2 * g + k) M p len z = ms_I S 14 (2 * g + k) (nI (M - z)) := by
      unfold clS clkP clkM
      rw [if_pos q]
      have : nI p = m_I (ms_I S 14 (2 * g + k) (nI (M - z))) 15 (2 * g + k) := by rw [mI_I, if_neg (by omega)]; exact eP.symm
      rw [this]
      exact ms_I_same
    rw [eb, es]
  · have r15 : m_I (ms_I S 14 (2 * g + k) 0) 15 (2 * g + k) = nI p := by rw [mI_I, if_neg (by omega)]; exact eP
    rw [if_pos (nI_lt (by omega) (by omega)), eL, if_neg (nI_ne0 (by omega) (by omega)), r15, pk_sub (by omega), i32_1, pk_sub (by omega), pk_div (by omega) (by omega) (by omega)]
    have em : clkM M z = 0 := by unfold clkM; omega
    have ep : clkP M p len z = p - (z - M - 1) / len := by unfold clkP; rw [if_neg q]
    have eb : clkB M p len z = decide (p - (z - M - 1) / len = 0) := by unfold clkB; rw [decide_eq_true q, Bool.true_and]
    unfold clS
    rw [em, ep, eb]
    have r97 : ∀ v : Int32, m_I (ms_I (ms_I S 14 (2 * g + k) 0) 15 (2 * g + k) v) 15 (2 * g + k) = v := fun v => by rw [mI_I, if_pos ⟨rfl, rfl⟩]
    have hsub := Nat.sub_le p ((z - M - 1) / len)
    unfold fX9_runsOut_97
    by_cases q2 : p ≤ (z - M - 1) / len
    · rw [if_pos (nI_le q2 (by omega)), if_pos hx32, if_pos hx32, hcl, r97, if_pos rfl, decide_eq_true (show p - (z - M - 1) / len = 0 by omega), show p - (z - M - 1) / len = 0 by omega]
      rfl
    · rw [if_neg (nI_ge (by omega) (by omega)), pk_sub (by omega), if_pos hx32, if_pos hx32, hcl, r97, if_neg (nI_ne0 (by omega) (by omega)), decide_eq_false (show ¬ p - (z - M - 1) / len = 0 by omega)]
      rfl
theorem LT.clk {S L L2 : MS} {J n G E Q N P g k M M0 M1 p0 p1 len z : Nat} (T : LT S L J n G E Q N P) (hg : g < G) (hk : k < 2) (s15a : m_I S 15 (2 * g) = nI p0) (s15b : m_I S 15 (2 * g + 1) = nI p1)
    (l : ∀ j, j ≠ 5 → m_I L2 j = m_I L j) (lJ : m_J L2 = m_J L) (e1 : m_I L2 5 (16 * k + g) = nI (clkM M z)) (e2 : m_I L2 5 (32 + g) = nI (10 * (if k = 0 then clkP M p0 len z else p0) + (if k = 0 then p1 else clkP M p1 len z))) (e3 : ∀ q, q ≠ 16 * k + g → q ≠ 32 + g → m_I L2 5 q = m_I L 5 q) :
    LT (clS S (2 * g + k) M (if k = 0 then p0 else p1) len z) L2 J n G E Q N P := by
  obtain ⟨a, ⟨b1, b2, b3, b4, b5, b6⟩, ⟨c1, c2, c3, c4, c5⟩, d2, d3, d4, d5, d6⟩ := T
  have I : ∀ a, a ≠ 14 → a ≠ 15 → m_I (clS S (2 * g + k) M (if k = 0 then p0 else p1) len z) a = m_I S a := fun a h h2 => clS_n h h2
  have O : ∀ a j, j ≠ 2 * g + k → m_I (clS S (2 * g + k) M (if k = 0 then p0 else p1) len z) a j = m_I S a j := fun a j h => by rw [clS_I, if_neg (fun y => h y.2), if_neg (fun y => h y.2)]
  have s14 : m_I (clS S (2 * g + k) M (if k = 0 then p0 else p1) len z) 14 (2 * g + k) = nI (clkM M z) := by rw [clS_I, if_neg (by omega), if_pos ⟨rfl, rfl⟩]
  have s15 : m_I (clS S (2 * g + k) M (if k = 0 then p0 else p1) len z) 15 (2 * g + k) = nI (clkP M (if k = 0 then p0 else p1) len z) := by rw [clS_I, if_pos ⟨rfl, rfl⟩]
  have si : m_i (clS S (2 * g + k) M (if k = 0 then p0 else p1) len z) = m_i S := clS_i
  have sJ : m_J (clS S (2 * g + k) M (if k = 0 then p0 else p1) len z) = m_J S := clS_J
  generalize clS S (2 * g + k) M (if k = 0 then p0 else p1) len z = S2 at I O s14 s15 si sJ ⊢
  refine ⟨by rw [si]; exact a, ⟨b1, b2, b3, b4, b5, b6⟩, by rw [l 7 (by omega)]; exact ⟨c1, c2, c3, c4, c5⟩, fun a ha => by rw [l 3 (by omega), I 0 (by omega) (by omega), I 1 (by omega) (by omega), I 2 (by omega) (by omega)]; exact d2 a ha, fun g' hg' => ⟨?_, ?_⟩, fun g' h1 h2 => by rw [l 6 (by omega), l 2 (by omega)]; exact d4 g' h1 h2, fun j hj => by rw [l 6 (by omega), I 17 (by omega) (by omega)]; exact d5 j hj, fun i hi => ?_⟩
  · by_cases q : g' = g
    · subst q
      obtain ⟨h1, h2, h3, h4, h5, h6, h7, h8, h9, h10⟩ := (d3 g' hg').1
      unfold LGm
      rw [l 4 (by omega), l 6 (by omega), I 3 (by omega) (by omega), I 4 (by omega) (by omega), I 8 (by omega) (by omega), I 9 (by omega) (by omega), I 10 (by omega) (by omega), I 12 (by omega) (by omega), I 13 (by omega) (by omega), I 16 (by omega) (by omega), hv_eq (S := S) (S2 := S2) (by rw [I 5 (by omega) (by omega)]) (by rw [I 6 (by omega) (by omega)]) (by rw [I 7 (by omega) (by omega)]), e2, e3 (48 + g') (by omega) (by omega)]
      refine ⟨h1, h2, h3, h4, ?_, ?_, ?_, h8, h9, h10⟩
      · have : k = 0 ∨ k = 1 := by omega
        rcases this with rfl | rfl
        · rw [show 16 * 0 + g' = g' by omega] at e1
          rw [Nat.add_zero] at s14
          rw [e1, s14]
        · rw [e3 g' (by omega) (by omega), O 14 (2 * g') (by omega)]; exact h5
      · have : k = 0 ∨ k = 1 := by omega
        rcases this with rfl | rfl
        · rw [e3 (16 + g') (by omega) (by omega), O 14 (2 * g' + 1) (by omega)]; exact h6
        · rw [show 16 * 1 + g' = 16 + g' by omega] at e1
          rw [e1, s14]
      · have : k = 0 ∨ k = 1 := by omega
        rcases this with rfl | rfl
        · rw [Nat.add_zero, if_pos rfl] at s15
          rw [s15, O 15 (2 * g' + 1) (by omega), s15b, if_pos rfl, if_pos rfl, i32_10, pk_mul, nI_add]
        · rw [if_neg (by decide)] at s15
          rw [s15, O 15 (2 * g') (by omega), s15a, if_neg (by decide), if_neg (by decide), i32_10, pk_mul, nI_add]
    · exact (d3 g' hg').1.eq (fun a h1 h2 => by rw [I a (by omega) (by omega)]) (by rw [I 12 (by omega) (by omega)]) (by rw [I 13 (by omega) (by omega)]) (fun j hj => ⟨O 14 _ (by omega), O 15 _ (by omega)⟩) (by rw [I 16 (by omega) (by omega)]) (fun _ _ => by rw [l 4 (by omega)]) (fun j hj => e3 _ (by omega) (by omega)) (fun _ _ => by rw [l 6 (by omega)])
  · exact (d3 g' hg').2.eq (Nat.le_refl _) (Nat.le_refl _) (by rw [I 11 (by omega) (by omega)]) (fun A _ => by rw [sJ, I 20 (by omega) (by omega)]; exact ⟨rfl, rfl, rfl⟩) (fun _ _ => by rw [l 2 (by omega)]) (fun _ _ => by rw [lJ]; exact ⟨rfl, rfl⟩) (fun j h1 h2 => by omega)
  · obtain ⟨q1, q2, q3⟩ := d6 i hi
    unfold LNd
    rw [l 8 (by omega), l 9 (by omega), I 28 (by omega) (by omega), I 30 (by omega) (by omega), I 36 (by omega) (by omega)]
    exact ⟨q1, q2, q3⟩
/-- a stone's move, in the law's rows -/
def plL (L : MS) (g Q m : Nat) (x : BW) : MS := ms_I (ms_I (ms_I (ms_I (ms_J (ms_J L 0 Q x.1) 1 Q x.2) 2 Q (nI g)) 7 2 (nI (Q + 1))) 6 g (nI m)) 6 (16 + g) 0
theorem plL_I {L : MS} {g Q m j q : Nat} {x : BW} : m_I (plL L g Q m x) j q = if j = 6 ∧ q = 16 + g then 0 else if j = 6 ∧ q = g then nI m else if j = 7 ∧ q = 2 then nI (Q + 1) else if j = 2 ∧ q = Q then nI g else m_I L j q := by
  unfold plL; rw [mI_I, mI_I, mI_I, mI_I, mI_J, mI_J]
theorem plL_J {L : MS} {g Q m j q : Nat} {x : BW} : m_J (plL L g Q m x) j q = if j = 1 ∧ q = Q then x.2 else if j = 0 ∧ q = Q then x.1 else m_J L j q := by
  unfold plL; rw [mJ_I, mJ_I, mJ_I, mJ_I, mJ_J, mJ_J]
/-- a pass, in the law's rows -/
def paL (L : MS) (g m ps : Nat) : MS := ms_I (ms_I L 6 g (nI m)) 6 (16 + g) (nI ps)
theorem paL_I {L : MS} {g m ps j q : Nat} : m_I (paL L g m ps) j q = if j = 6 ∧ q = 16 + g then nI ps else if j = 6 ∧ q = g then nI m else m_I L j q := by
  unfold paL; rw [mI_I, mI_I]
/-- what a move changes, but for the positions -/
theorem LT.moved {S L L2 : MS} {J J2 n G E Q Q2 N P g A m ps : Nat} {x : BW} (T : LT S L J n G E Q N P) (hg : g < G) (hP : P + 1 ≤ 4000) (hQ : Q ≤ Q2 ∧ Q2 ≤ J2)
    (l : ∀ j, j ≠ 2 → j ≠ 6 → j ≠ 7 → m_I L2 j = m_I L j) (l7 : ∀ q, q ≠ 2 → m_I L2 7 q = m_I L 7 q) (l72 : m_I L2 7 2 = nI Q2) (l6 : ∀ q, q ≠ g → q ≠ 16 + g → m_I L2 6 q = m_I L 6 q) (l6a : m_I L2 6 g = nI m) (l6b : m_I L2 6 (16 + g) = nI ps) (l2 : ∀ j, j < Q → m_I L2 2 j = m_I L 2 j) (l2b : ∀ j, Q ≤ j → j < Q2 → m_I L2 2 j = nI g) (lJ : ∀ j, j < Q → m_J L2 0 j = m_J L 0 j ∧ m_J L2 1 j = m_J L 1 j)
    (hB : LBo (mvS S P g A m x (nI ps)) L2 (P + 1) Q2 g) : LT (mvS S P g A m x (nI ps)) L2 J2 n G E Q2 N (P + 1) := by
  obtain ⟨⟨a1, a2, a3, a4, a5⟩, ⟨b1, b2, b3, b4, b5, b6⟩, ⟨c1, c2, c3, c4, c5⟩, d2, d3, d4, d5, d6⟩ := T
  have I : ∀ a, (a ≠ 11 ∧ a ≠ 12 ∧ a ≠ 13 ∧ a ≠ 20) → m_I (mvS S P g A m x (nI ps)) a = m_I S a := fun a h => by funext j; rw [mvS_I, if_neg (by omega), if_neg (by omega), if_neg (by omega), if_neg (by omega)]
  have O : ∀ a j, a ≠ 20 → j ≠ g → m_I (mvS S P g A m x (nI ps)) a j = m_I S a j := fun a j h h2 => by rw [mvS_I, if_neg (by omega), if_neg (by omega), if_neg (by omega), if_neg (by omega)]
  have s12 : m_I (mvS S P g A m x (nI ps)) 12 g = nI m := by rw [mvS_I, if_neg (by omega), if_pos ⟨rfl, rfl⟩]
  have s13 : m_I (mvS S P g A m x (nI ps)) 13 g = nI ps := by rw [mvS_I, if_pos ⟨rfl, rfl⟩]
  have si : ∀ k, k ≠ 21 → m_i (mvS S P g A m x (nI ps)) k = m_i S k := fun k h => by rw [mvS_i, if_neg h]
  have s21 : m_i (mvS S P g A m x (nI ps)) 21 = nI (P + 1) := by rw [mvS_i, if_pos rfl]
  have sP : ∀ B, B < P → m_J (mvS S P g A m x (nI ps)) 18 B = m_J S 18 B ∧ m_J (mvS S P g A m x (nI ps)) 19 B = m_J S 19 B ∧ m_I (mvS S P g A m x (nI ps)) 20 B = m_I S 20 B := fun B h => by
    rw [mvS_J, if_neg (by omega), if_neg (by omega), mvS_J, if_neg (by omega), if_neg (by omega), mvS_I, if_neg (by omega), if_neg (by omega), if_neg (by omega), if_neg (by omega)]
    exact ⟨rfl, rfl, rfl⟩
  generalize mvS S P g A m x (nI ps) = S2 at I O s12 s13 si s21 sP hB ⊢
  refine ⟨⟨(si 0 (by omega)).trans a1, (si 4 (by omega)).trans a2, (si 19 (by omega)).trans a3, (si 36 (by omega)).trans a4, s21⟩, ⟨b1, b2, b3, b4, hQ.2, hP⟩, ⟨(l7 0 (by omega)).trans c1, (l7 1 (by omega)).trans c2, l72, (l7 3 (by omega)).trans c4, (l7 4 (by omega)).trans c5⟩, fun a ha => by rw [l 3 (by omega) (by omega) (by omega), I 0 (by omega), I 1 (by omega), I 2 (by omega)]; exact d2 a ha, fun g' hg' => ?_, fun g' h1 h2 => ?_, fun j hj => by rw [l6 _ (by omega) (by omega), I 17 (by omega)]; exact d5 j hj, fun i hi => ?_⟩
  · by_cases q : g' = g
    · subst q
      refine ⟨?_, hB⟩
      obtain ⟨h1, h2, h3, h4, h5, h6, h7, h8, h9, h10⟩ := (d3 g' hg').1
      unfold LGm
      rw [l 4 (by omega) (by omega) (by omega), l 5 (by omega) (by omega) (by omega), l6a, l6b, s12, s13, I 3 (by omega), I 4 (by omega), I 8 (by omega), I 9 (by omega), I 10 (by omega), I 14 (by omega), I 15 (by omega), I 16 (by omega), hv_eq (S := S) (S2 := S2) (by rw [I 5 (by omega)]) (by rw [I 6 (by omega)]) (by rw [I 7 (by omega)])]
      exact ⟨h1, h2, h3, h4, h5, h6, h7, h8, rfl, rfl⟩
    · refine ⟨(d3 g' hg').1.eq (fun a h1 h2 => by rw [I a (by omega)]) (O 12 _ (by omega) q) (O 13 _ (by omega) q) (fun j hj => by rw [I 14 (by omega), I 15 (by omega)]; exact ⟨rfl, rfl⟩) (by rw [I 16 (by omega)]) (fun _ _ => by rw [l 4 (by omega) (by omega) (by omega)]) (fun j hj => by rw [l 5 (by omega) (by omega) (by omega)]) (fun j hj => l6 _ (by omega) (by omega)), ?_⟩
      exact (d3 g' hg').2.eq (Nat.le_succ P) hQ.1 (O 11 _ (by omega) q) sP l2 lJ (fun j h1 h2 e => by
        rw [l2b j h1 h2] at e
        exact q ((nI_eq (by omega) (by omega)).mp e).symm)
  · refine ⟨by rw [l6 _ (by omega) (by omega)]; exact (d4 g' h1 h2).1, by rw [l6 _ (by omega) (by omega)]; exact (d4 g' h1 h2).2.1, fun j hj => ?_⟩
    by_cases z : j < Q
    · rw [l2 j z]; exact (d4 g' h1 h2).2.2 j z
    · rw [l2b j (by omega) hj]; exact fun e => absurd ((nI_eq (by omega) (by omega)).mp e) (by omega)
  · obtain ⟨q1, q2, q3⟩ := d6 i hi
    unfold LNd
    rw [l 8 (by omega) (by omega) (by omega), l 9 (by omega) (by omega) (by omega), I 28 (by omega), I 30 (by omega), I 36 (by omega)]
    exact ⟨q1, q2, q3⟩
/-- the positions behind a move -/
theorem mv_WM {S : MS} {P g A m : Nat} {x : BW} {ps : Int32} {l : List BW} (hW : WM S P A l) : WM (mvS S P g A m x ps) (P + 1) P (x :: l) := by
  refine ⟨by omega, by rw [mvS_J, if_neg (by omega), if_pos ⟨rfl, rfl⟩], by rw [mvS_J, if_pos ⟨rfl, rfl⟩], fun z => ?_, fun _ => ⟨A, by rw [mvS_I, if_neg (by omega), if_neg (by omega), if_neg (by omega), if_pos ⟨rfl, rfl⟩], WM.mono (Nat.le_succ P) _ _ (WM.cg (fun B h => ?_) _ _ hW)⟩⟩
  · subst z; exact hW.elim
  · rw [mvS_J, if_neg (by omega), if_neg (by omega), mvS_J, if_neg (by omega), if_neg (by omega), mvS_I, if_neg (by omega), if_neg (by omega), if_neg (by omega), if_neg (by omega)]
    exact ⟨rfl, rfl, rfl⟩
theorem LT.played {S L : MS} {J n G E Q N P g A m : Nat} {x : BW} (T : LT S L J n G E Q N P) (hg : g < G) (hP : P + 1 ≤ 4000) (hQ : Q < 64) (h11 : m_I S 11 g = nI A) (hA : A < 4096) :
    LT (mvS S P g A m x (nI 0)) (plL L g Q m x) (J + 1) n G E (Q + 1) N (P + 1) := by
  have b2 := T.2.1.2.1
  have b5 := T.2.1.2.2.2.2.1
  have b6 := T.2.1.2.2.2.2.2
  have w2 : m_I (plL L g Q m x) 2 Q = nI g := by rw [plL_I, if_neg (by omega), if_neg (by omega), if_neg (by omega), if_pos ⟨rfl, rfl⟩]
  have w2n : ∀ j, j ≠ Q → m_I (plL L g Q m x) 2 j = m_I L 2 j := fun j hj => by rw [plL_I, if_neg (by omega), if_neg (by omega), if_neg (by omega), if_neg (by omega)]
  have wJ : ∀ i j, j ≠ Q → m_J (plL L g Q m x) i j = m_J L i j := fun i j hj => by rw [plL_J, if_neg (by omega), if_neg (by omega)]
  have wJ0 : m_J (plL L g Q m x) 0 Q = x.1 := by rw [plL_J, if_neg (by omega), if_pos ⟨rfl, rfl⟩]
  have wJ1 : m_J (plL L g Q m x) 1 Q = x.2 := by rw [plL_J, if_pos ⟨rfl, rfl⟩]
  refine T.moved hg hP (by omega) (fun j h1 h2 h3 => by funext q; rw [plL_I, if_neg (by omega), if_neg (by omega), if_neg (by omega), if_neg (by omega)]) (fun q hq => by rw [plL_I, if_neg (by omega), if_neg (by omega), if_neg (by omega), if_neg (by omega)]) (by rw [plL_I, if_neg (by omega), if_neg (by omega), if_pos ⟨rfl, rfl⟩]) (fun q h1 h2 => by rw [plL_I, if_neg (by omega), if_neg (by omega), if_neg (by omega), if_neg (by omega)]) (by rw [plL_I, if_neg (by omega), if_pos ⟨rfl, rfl⟩]) (by rw [plL_I, if_pos ⟨rfl, rfl⟩]; rfl) (fun j hj => w2n j (by omega)) (fun j h1 h2 => by rw [show j = Q by omega]; exact w2) (fun j hj => ⟨wJ 0 j (by omega), wJ 1 j (by omega)⟩) ?_
  obtain ⟨l, A', e11, hW, hex, hmem, hhd⟩ := (T.2.2.2.2.1 g hg).2
  have eA : A' = A := (nI_eq (by cases l with | nil => exact hW.elim | cons z t => have := hW.1; omega) (by omega)).mp (e11.symm.trans h11)
  subst eA
  have hlat : lat (plL L g Q m x) g (Q + 1) = Q := by unfold lat; rw [if_pos w2]
  refine ⟨x :: l, P, by rw [mvS_I, if_neg (by omega), if_neg (by omega), if_pos ⟨rfl, rfl⟩], mv_WM hW, ⟨Q, by omega, w2⟩, fun y => ?_, ?_⟩
  · rw [List.mem_cons, hmem]
    constructor
    · rintro (rfl | ⟨j, hj, z1, z2⟩)
      · exact ⟨Q, by omega, w2, by rw [wJ0, wJ1]⟩
      · exact ⟨j, by omega, (w2n j (by omega)).trans z1, by rw [wJ 0 j (by omega), wJ 1 j (by omega)]; exact z2⟩
    · rintro ⟨j, hj, z1, z2⟩
      by_cases q : j = Q
      · subst q
        rw [wJ0, wJ1] at z2
        exact Or.inl z2.symm
      · exact Or.inr ⟨j, by omega, (w2n j q).symm.trans z1, by rw [← wJ 0 j q, ← wJ 1 j q]; exact z2⟩
  · rw [hlat, wJ0, wJ1]; rfl
theorem LT.passed {S L : MS} {J n G E Q N P g A m ps : Nat} {x : BW} (T : LT S L J n G E Q N P) (hg : g < G) (hP : P + 1 ≤ 4000) (h11 : m_I S 11 g = nI A) (hA : A < 4096) (hx : x = (m_J L 0 (lat L g Q), m_J L 1 (lat L g Q))) :
    LT (mvS S P g A m x (nI ps)) (paL L g m ps) (J + 1) n G E Q N (P + 1) := by
  have b2 := T.2.1.2.1
  have b5 := T.2.1.2.2.2.2.1
  have b6 := T.2.1.2.2.2.2.2
  have w2 : m_I (paL L g m ps) 2 = m_I L 2 := by funext j; rw [paL_I, if_neg (by omega), if_neg (by omega)]
  have wJ : m_J (paL L g m ps) = m_J L := rfl
  refine T.moved hg hP (by omega) (fun j h1 h2 h3 => by funext q; rw [paL_I, if_neg (by omega), if_neg (by omega)]) (fun q hq => by rw [paL_I, if_neg (by omega), if_neg (by omega)]) (by rw [paL_I, if_neg (by omega), if_neg (by omega)]; exact T.2.2.1.2.2.1) (fun q h1 h2 => by rw [paL_I, if_neg (by omega), if_neg (by omega)]) (by rw [paL_I, if_neg (by omega), if_pos ⟨rfl, rfl⟩]) (by rw [paL_I, if_pos ⟨rfl, rfl⟩]) (fun j hj => by rw [w2]) (fun j h1 h2 => by omega) (fun j hj => by rw [wJ]; exact ⟨rfl, rfl⟩) ?_
  obtain ⟨l, A', e11, hW, hex, hmem, hhd⟩ := (T.2.2.2.2.1 g hg).2
  have eA : A' = A := (nI_eq (by cases l with | nil => exact hW.elim | cons z t => have := hW.1; omega) (by omega)).mp (e11.symm.trans h11)
  subst eA
  have hlat : lat (paL L g m ps) g Q = lat L g Q := lat_eq Q (fun k _ => by rw [w2])
  have hxl : x ∈ l := by
    rw [hx]
    cases l with
    | nil => cases hhd
    | cons z r =>
      rw [List.head?_cons, Option.some.injEq] at hhd
      rw [hhd]; exact List.mem_cons_self
  refine ⟨x :: l, P, by rw [mvS_I, if_neg (by omega), if_neg (by omega), if_pos ⟨rfl, rfl⟩], mv_WM hW, by rw [w2]; exact hex, fun y => ?_, ?_⟩
  · rw [w2, wJ, ← hmem, List.mem_cons]
    exact ⟨fun h => h.elim (fun e => by rw [e]; exact hxl) id, Or.inr⟩
  · rw [hlat, wJ, hx]; rfl
