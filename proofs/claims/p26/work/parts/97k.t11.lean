/-! P26 11: what a game's end and a void game change in the law's rows. -/
def rkW (W S2 : MS) (n : Nat) : MS := (m_i W, m_j W, fun j q => if j = 3 ∧ q < 3 * n ∧ q % 3 = 1 then m_I S2 1 (q / 3) else if j = 3 ∧ q < 3 * n ∧ q % 3 = 2 then m_I S2 2 (q / 3) else m_I W j q, m_J W)
theorem rkW_I {W S2 : MS} {n j q : Nat} : m_I (rkW W S2 n) j q = if j = 3 ∧ q < 3 * n ∧ q % 3 = 1 then m_I S2 1 (q / 3) else if j = 3 ∧ q < 3 * n ∧ q % 3 = 2 then m_I S2 2 (q / 3) else m_I W j q := rfl
theorem rkW_n {W S2 : MS} {n j : Nat} (h : j ≠ 3) : m_I (rkW W S2 n) j = m_I W j := by funext q; rw [rkW_I, if_neg (fun z => h z.1), if_neg (fun z => h z.1)]
theorem rkW_J {W S2 : MS} {n : Nat} : m_J (rkW W S2 n) = m_J W := rfl
theorem rkW_Lp {W S2 : MS} {n : Nat} : Lp n (rkW W S2 n) W := ⟨rfl, rfl, rfl, fun j h => (rkW_n h).symm, fun q hq => by rw [rkW_I, if_neg (by omega), if_neg (by omega)]⟩
theorem LT.upd {S S2 L W : MS} {J J2 n G E E2 Q N P : Nat} (T : LT S L J n G E Q N P) (hJ : J ≤ J2) (hE : E2 ≤ 16) (ei : ∀ k, (k = 0 ∨ k = 4 ∨ k = 21 ∨ k = 36) → m_i S2 k = m_i S k) (e19 : m_i S2 19 = nI E2)
    (eI : ∀ a, a ≤ 36 → a ≠ 1 → a ≠ 2 → a ≠ 8 → a ≠ 9 → a ≠ 17 → m_I S2 a = m_I S a) (eJ : ∀ a, a ≤ 19 → m_J S2 a = m_J S a)
    (e8 : ∀ g, g < G → m_I W 4 (32 + g) = m_I S2 8 g ∧ m_I W 4 (48 + g) = 2 * m_I S2 10 g + m_I S2 9 g)
    (e17 : ∀ j, j < E2 → m_I W 6 (32 + j) = m_I S2 17 j)
    (l : ∀ j, j ≠ 4 → j ≠ 6 → j ≠ 7 → m_I W j = m_I L j) (l4 : ∀ q, q < 32 → m_I W 4 q = m_I L 4 q) (l6 : ∀ q, q < 32 → m_I W 6 q = m_I L 6 q) (l7 : ∀ q, q ≠ 3 → m_I W 7 q = m_I L 7 q) (l73 : m_I W 7 3 = nI E2) (lJ : m_J W = m_J L) : LT S2 (rkW W S2 n) J2 n G E2 Q N P := by
  obtain ⟨⟨a1, a2, a3, a4, a5⟩, ⟨b1, b2, b3, b4, b5, b6⟩, ⟨c1, c2, c3, c4, c5⟩, d2, d3, d4, d5, d6⟩ := T
  have R : ∀ j, j ≠ 3 → m_I (rkW W S2 n) j = m_I W j := fun j h => rkW_n h
  have I : ∀ a, (a ≤ 36 ∧ a ≠ 1 ∧ a ≠ 2 ∧ a ≠ 8 ∧ a ≠ 9 ∧ a ≠ 17) → m_I S2 a = m_I S a := fun a h => eI a h.1 h.2.1 h.2.2.1 h.2.2.2.1 h.2.2.2.2.1 h.2.2.2.2.2
  refine ⟨⟨(ei 0 (by omega)).trans a1, (ei 4 (by omega)).trans a2, e19, (ei 36 (by omega)).trans a4, (ei 21 (by omega)).trans a5⟩, ⟨b1, b2, hE, b4, by omega, b6⟩, ⟨?_, ?_, ?_, ?_, ?_⟩, fun a ha => ⟨?_, ?_, ?_⟩, fun g hg => ⟨?_, ?_⟩, fun g h1 h2 => ?_, fun j hj => ?_, fun i hi => ?_⟩
  · rw [R 7 (by omega), l7 0 (by omega)]; exact c1
  · rw [R 7 (by omega), l7 1 (by omega)]; exact c2
  · rw [R 7 (by omega), l7 2 (by omega)]; exact c3
  · rw [R 7 (by omega)]; exact l73
  · rw [R 7 (by omega), l7 4 (by omega)]; exact c5
  · rw [rkW_I, if_neg (by omega), if_neg (by omega), l 3 (by omega) (by omega) (by omega), I 0 (by omega)]; exact (d2 a ha).1
  · rw [rkW_I, if_pos ⟨rfl, by omega, by omega⟩, show (3 * a + 1) / 3 = a by omega]
  · rw [rkW_I, if_neg (by omega), if_pos ⟨rfl, by omega, by omega⟩, show (3 * a + 2) / 3 = a by omega]
  · obtain ⟨h1, h2, h3, h4, h5, h6, h7, h8, h9, h10⟩ := (d3 g hg).1
    unfold LGm
    rw [R 4 (by omega), R 5 (by omega), R 6 (by omega), (e8 g hg).1, (e8 g hg).2, l4 _ (by omega), l4 _ (by omega), l6 _ (by omega), l6 _ (by omega), l 5 (by omega) (by omega) (by omega), hv_eq (S := S) (S2 := S2) (by rw [I 5 (by omega)]) (by rw [I 6 (by omega)]) (by rw [I 7 (by omega)]), I 3 (by omega), I 4 (by omega), I 14 (by omega), I 15 (by omega), I 16 (by omega), I 12 (by omega), I 13 (by omega)]
    exact ⟨h1, h2, rfl, rfl, h5, h6, h7, h8, h9, h10⟩
  · exact (d3 g hg).2.eq (Nat.le_refl _) (Nat.le_refl _) (by rw [I 11 (by omega)]) (fun A _ => by rw [eJ 18 (by omega), eJ 19 (by omega), I 20 (by omega)]; exact ⟨rfl, rfl, rfl⟩) (fun j _ => by rw [R 2 (by omega), l 2 (by omega) (by omega) (by omega)]) (fun j _ => by rw [rkW_J, lJ]; exact ⟨rfl, rfl⟩) (fun j h1 h2 => by omega)
  · rw [R 6 (by omega), R 2 (by omega), l6 _ (by omega), l6 _ (by omega), l 2 (by omega) (by omega) (by omega)]; exact d4 g h1 h2
  · rw [R 6 (by omega)]; exact e17 j hj
  · obtain ⟨q1, q2, q3⟩ := d6 i hi
    unfold LNd
    rw [R 8 (by omega), R 9 (by omega), l 8 (by omega) (by omega) (by omega), l 9 (by omega) (by omega) (by omega), I 28 (by omega), I 30 (by omega), I 36 (by omega)]
    exact ⟨q1, q2, q3⟩
section ENDED
variable {lo : Nat} {h h2 : TH} {S S2 L W : MS} {t c s n G N P Q J J2 : Nat} {gm nd : Nat → Nat} {gl nl : Nat → List BW} {ol : List Nat} {kp kp2 : Nat → Bool}
theorem LT.fin (H2 : Rel 16 lo h2 S2 t c s n G N P gm nd gl nl ol kp) (T' : LT S2 (rkW W S2 n) J n G ol.length Q N P) : LK S2 W n ol ∧ ∀ L2, Lp n W L2 → LRk S2 L2 n ol → L2 = rkW W S2 n := by
  have h8 := H2.2.1.1
  refine ⟨(LT.lk H2 T').lp rkW_Lp, fun L2 A hR => (rkW_Lp.tr A).eq fun a ha => ?_⟩
  rw [hR a ha, ← H2.rky.p h8 ha]
  unfold prs
  rw [rkW_I, if_pos ⟨rfl, by omega, by omega⟩, rkW_I, if_neg (by omega), if_pos ⟨rfl, by omega, by omega⟩, show (3 * a + 1) / 3 = a by omega, show (3 * a + 2) / 3 = a by omega]
theorem leW_I {g E w j q : Nat} : m_I (leW L g E w) j q = if j = 7 ∧ q = 3 then nI (E + 1) else if j = 6 ∧ q = 32 + E then nI g else if j = 4 ∧ q = 32 + g then nI (w + 1) else m_I L j q := by
  unfold leW; rw [mI_I, mI_I, mI_I]
theorem LT.ended (H : Rel 16 lo h S t c s n G N P gm nd gl nl ol kp) (T : LT S L J n G ol.length Q N P) (hJ : J ≤ J2) {g w : Nat} (hg : g < G) (h8 : m_I S 8 g = 0) (hw : w ≤ 1) (H2 : Rel 16 lo h2 S2 t c s n G N P gm nd gl nl (ol ++ [g]) kp2) (e : Eq12 (eW S g ol.length (nI (w + 1))) S2) :
    ∃ L2, fL_ends L (nI g) (nI w) = some L2 ∧ LT S2 L2 J2 n G (ol ++ [g]).length Q N P ∧ m_I L2 4 (32 + g) = nI (w + 1) := by
  have h16 := H.G16
  obtain ⟨hlt, hno⟩ := H.ol_lt hg h8
  have hl1 : (ol ++ [g]).length = ol.length + 1 := by rw [List.length_append]; rfl
  have uI : ∀ a j, a ≠ 1 → a ≠ 2 → m_I S2 a j = if a = 17 ∧ j = ol.length then nI g else if a = 8 ∧ j = g then nI (w + 1) else m_I S a j := fun a j h1 h2 => by
    rw [e.2.2.1 a h1 h2]; unfold eW; rw [mI_i, mI_I, mI_I]
  have ui : ∀ k, m_i S2 k = if k = 19 then nI (ol.length + 1) else m_i S k := fun k => by rw [e.1]; unfold eW; rw [mi_i]; rfl
  have uJ : m_J S2 = m_J S := e.2.2.2
  have hT := T
  obtain ⟨⟨a1, a2, a3, a4, a5⟩, ⟨b1, b2, b3, b4, b5, b6⟩, ⟨c1, c2, c3, c4, c5⟩, d2, d3, d4, d5, d6⟩ := T
  have T' : LT S2 (rkW (leW L g ol.length w) S2 n) J2 n G (ol ++ [g]).length Q N P := by
    rw [hl1]
    refine hT.upd hJ (by omega) (fun k hk => by rw [ui, if_neg (by omega)]) (by rw [ui, if_pos rfl]) (fun a h0 h1 h2 h3 h4 h5 => by funext j; rw [uI a j h1 h2, if_neg (by omega), if_neg (by omega)]) (fun a _ => by rw [uJ]) (fun g' hg' => ?_) (fun j hj => ?_) (fun j h1 h2 h3 => by funext q; rw [leW_I, if_neg (by omega), if_neg (by omega), if_neg (by omega)]) (fun q hq => by rw [leW_I, if_neg (by omega), if_neg (by omega), if_neg (by omega)]) (fun q hq => by rw [leW_I, if_neg (by omega), if_neg (by omega), if_neg (by omega)]) (fun q hq => by rw [leW_I, if_neg (by omega), if_neg (by omega), if_neg (by omega)]) (by rw [leW_I, if_pos ⟨rfl, rfl⟩]) rfl
    · obtain ⟨-, -, f3, f4, -⟩ := (d3 g' hg').1
      have w32 : m_I (leW L g ol.length w) 4 (32 + g') = if g' = g then nI (w + 1) else m_I L 4 (32 + g') := by
        rw [leW_I, if_neg (by omega), if_neg (by omega)]
        by_cases q : g' = g
        · rw [if_pos ⟨rfl, by omega⟩, if_pos q]
        · rw [if_neg (by omega), if_neg q]
      have w48 : m_I (leW L g ol.length w) 4 (48 + g') = m_I L 4 (48 + g') := by rw [leW_I, if_neg (by omega), if_neg (by omega), if_neg (by omega)]
      have u8 : m_I S2 8 g' = if g' = g then nI (w + 1) else m_I S 8 g' := by
        rw [uI 8 g' (by omega) (by omega), if_neg (by omega)]
        by_cases q : g' = g
        · rw [if_pos ⟨rfl, q⟩, if_pos q]
        · rw [if_neg (by omega), if_neg q]
      have u9 : m_I S2 9 g' = m_I S 9 g' := by rw [uI 9 g' (by omega) (by omega), if_neg (by omega), if_neg (by omega)]
      have u10 : m_I S2 10 g' = m_I S 10 g' := by rw [uI 10 g' (by omega) (by omega), if_neg (by omega), if_neg (by omega)]
      rw [w32, w48, u8, u9, u10]
      exact ⟨by rw [f3], f4⟩
    · rw [leW_I, if_neg (by omega), uI 17 j (by omega) (by omega)]
      by_cases q : j = ol.length
      · rw [if_pos ⟨rfl, by omega⟩, if_pos ⟨rfl, q⟩]
      · rw [if_neg (by omega), if_neg (by omega), if_neg (by omega), if_neg (by omega)]; exact d5 j (by omega)
  obtain ⟨hK, hF⟩ := LT.fin H2 T'
  obtain ⟨L2, e1, e2, e3⟩ := ends_L (show g < 16 by omega) (show ol.length < 16 by omega) hw c4 hK hl1
  refine ⟨L2, e1, ?_, ?_⟩
  · rw [hF L2 e2 e3]; exact T'
  · rw [hF L2 e2 e3, rkW_n (by omega), leW_I, if_neg (by omega), if_neg (by omega), if_pos ⟨rfl, rfl⟩]
/-- a game void, in the law's rows -/
def vW (L S : MS) (g E : Nat) : MS := if m_I S 8 g = 0 then ms_I (ms_I (ms_I (ms_I L 4 (48 + g) (m_I L 4 (48 + g) + 1)) 4 (32 + g) 2) 6 (32 + E) (nI g)) 7 3 (nI (E + 1)) else ms_I L 4 (48 + g) (m_I L 4 (48 + g) + 1)
theorem vW_I {g E j q : Nat} : m_I (vW L S g E) j q = if m_I S 8 g = 0 ∧ j = 7 ∧ q = 3 then nI (E + 1) else if m_I S 8 g = 0 ∧ j = 6 ∧ q = 32 + E then nI g else if m_I S 8 g = 0 ∧ j = 4 ∧ q = 32 + g then 2 else if j = 4 ∧ q = 48 + g then m_I L 4 (48 + g) + 1 else m_I L j q := by
  unfold vW
  by_cases q : m_I S 8 g = 0
  · rw [if_pos q, mI_I, mI_I, mI_I, mI_I]; simp only [q, true_and]
  · rw [if_neg q, mI_I]; simp only [q, false_and, if_false]
theorem vS_I {g E a j : Nat} : m_I (vS S g E) a j = if m_I S 8 g = 0 ∧ a = 17 ∧ j = E then nI g else if m_I S 8 g = 0 ∧ a = 8 ∧ j = g then 2 else if a = 9 ∧ j = g then 1 else m_I S a j := by
  unfold vS
  by_cases q : m_I S 8 g = 0
  · rw [if_pos q, mI_i, mI_I, mI_I, mI_I]; simp only [q, true_and]
  · rw [if_neg q, mI_I]; simp only [q, false_and, if_false]
theorem vS_i {g E k : Nat} : m_i (vS S g E) k = if m_I S 8 g = 0 ∧ k = 19 then nI (E + 1) else m_i S k := by
  unfold vS
  by_cases q : m_I S 8 g = 0
  · rw [if_pos q, mi_i]
    by_cases z : k = 19
    · rw [if_pos z, if_pos ⟨q, z⟩]
    · rw [if_neg z, if_neg (fun y => z y.2)]; rfl
  · rw [if_neg q, if_neg (fun y => q y.1)]; rfl
theorem vS_J {g E : Nat} : m_J (vS S g E) = m_J S := by
  unfold vS
  split <;> rfl
theorem vO_len {g : Nat} : (vO S g ol).length = if m_I S 8 g = 0 then ol.length + 1 else ol.length := by
  unfold vO
  by_cases q : m_I S 8 g = 0
  · rw [if_pos q, if_pos q, List.length_append]; rfl
  · rw [if_neg q, if_neg q]
theorem LT.voided (H : Rel 16 lo h S t c s n G N P gm nd gl nl ol kp) (T : LT S L J n G ol.length Q N P) (hJ : J ≤ J2) {g : Nat} (hg : g < G) (h9 : m_I S 9 g = 0) (H2 : Rel 16 lo h2 S2 t c s n G N P gm nd gl nl (vO S g ol) kp2) (e : Eq12 (vS S g ol.length) S2) :
    ∃ L2, fL_finds (vW L S g ol.length) (nI (vO S g ol).length) = some L2 ∧ LT S2 L2 J2 n G (vO S g ol).length Q N P := by
  have h16 := H.G16
  have hol := H2.2.2.2.1.2.1
  have hlt : m_I S 8 g = 0 → ol.length < 16 := fun h8 => by have := (H.ol_lt hg h8).1; omega
  have uI : ∀ a j, a ≠ 1 → a ≠ 2 → m_I S2 a j = _ := fun a j h1 h2 => (congrFun (e.2.2.1 a h1 h2) j).trans vS_I
  have ui : ∀ k, m_i S2 k = _ := fun k => (congrFun e.1 k).trans vS_i
  have uJ : m_J S2 = m_J S := e.2.2.2.trans vS_J
  have hlen := vO_len (S := S) (g := g) (ol := ol)
  have hT := T
  obtain ⟨⟨a1, a2, a3, a4, a5⟩, ⟨b1, b2, b3, b4, b5, b6⟩, ⟨c1, c2, c3, c4, c5⟩, d2, d3, d4, d5, d6⟩ := T
  have T' : LT S2 (rkW (vW L S g ol.length) S2 n) J2 n G (vO S g ol).length Q N P := by
    refine hT.upd hJ hol (fun k hk => by rw [ui, if_neg (by omega)]) ?_ (fun a h0 h1 h2 h3 h4 h5 => by funext j; rw [uI a j h1 h2, if_neg (by omega), if_neg (by omega), if_neg (by omega)]) (fun a _ => by rw [uJ]) (fun g' hg' => ?_) (fun j hj => ?_) (fun j h1 h2 h3 => by funext q; rw [vW_I, if_neg (by omega), if_neg (by omega), if_neg (by omega), if_neg (by omega)]) (fun q hq => by rw [vW_I, if_neg (by omega), if_neg (by omega), if_neg (by omega), if_neg (by omega)]) (fun q hq => by rw [vW_I, if_neg (by omega), if_neg (by omega), if_neg (by omega), if_neg (by omega)]) (fun q hq => by rw [vW_I, if_neg (by omega), if_neg (by omega), if_neg (by omega), if_neg (by omega)]) ?_ (by unfold vW; split <;> rfl)
    · rw [ui, hlen]
      by_cases q : m_I S 8 g = 0
      · rw [if_pos ⟨q, rfl⟩, if_pos q]
      · rw [if_neg (fun y => q y.1), if_neg q]; exact a3
    · obtain ⟨-, -, f3, f4, -⟩ := (d3 g' hg').1
      rw [uI 8 g' (by omega) (by omega), uI 9 g' (by omega) (by omega), uI 10 g' (by omega) (by omega), vW_I, vW_I]
      constructor
      · rw [if_neg (by omega), if_neg (by omega), if_neg (show ¬ (m_I S 8 g = 0 ∧ 8 = 17 ∧ g' = ol.length) by omega)]
        by_cases q : m_I S 8 g = 0 ∧ g' = g
        · rw [if_pos ⟨q.1, rfl, by omega⟩, if_pos ⟨q.1, rfl, q.2⟩]
        · rw [if_neg (fun z => q ⟨z.1, by omega⟩), if_neg (by omega), if_neg (fun z => q ⟨z.1, z.2.2⟩), if_neg (by omega)]; exact f3
      · rw [if_neg (by omega), if_neg (by omega), if_neg (by omega), if_neg (show ¬ (m_I S 8 g = 0 ∧ 10 = 17 ∧ g' = ol.length) by omega), if_neg (show ¬ (m_I S 8 g = 0 ∧ 10 = 8 ∧ g' = g) by omega), if_neg (show ¬ (10 = 9 ∧ g' = g) by omega), if_neg (show ¬ (m_I S 8 g = 0 ∧ 9 = 17 ∧ g' = ol.length) by omega), if_neg (show ¬ (m_I S 8 g = 0 ∧ 9 = 8 ∧ g' = g) by omega)]
        by_cases q : g' = g
        · subst q
          rw [if_pos ⟨rfl, rfl⟩, if_pos ⟨rfl, rfl⟩, f4, h9, Int32.add_zero]
        · rw [if_neg (by omega), if_neg (by omega)]; exact f4
    · rw [uI 17 j (by omega) (by omega), vW_I]
      rw [hlen] at hj
      by_cases q : m_I S 8 g = 0
      · rw [if_pos q] at hj
        rw [if_neg (by omega)]
        by_cases z : j = ol.length
        · rw [if_pos ⟨q, rfl, by omega⟩, if_pos ⟨q, rfl, z⟩]
        · rw [if_neg (by omega), if_neg (by omega), if_neg (by omega), if_neg (by omega), if_neg (by omega), if_neg (by omega)]; exact d5 j (by omega)
      · rw [if_neg q] at hj
        rw [if_neg (fun y => q y.1), if_neg (fun y => q y.1), if_neg (fun y => q y.1), if_neg (by omega), if_neg (fun y => q y.1), if_neg (fun y => q y.1), if_neg (by omega)]; exact d5 j hj
    · rw [vW_I, hlen]
      by_cases q : m_I S 8 g = 0
      · rw [if_pos ⟨q, rfl, rfl⟩, if_pos q]
      · rw [if_neg (fun y => q y.1), if_neg (fun y => q y.1), if_neg (fun y => q y.1), if_neg (by omega), if_neg q]; exact c4
  obtain ⟨hK, hF⟩ := LT.fin H2 T'
  obtain ⟨L2, e1, e2, e3⟩ := finds_L hK (Nat.le_refl _)
  refine ⟨L2, e1, ?_⟩
  rw [hF L2 e2 (fun a ha => by rw [e3 a ha, List.take_length])]
  exact T'
end ENDED
