/-! P26 2: the law's ranks and strings, its due pairings. -/
/-- only ranks and strings of the first n players change -/
def Lp (n : Nat) (L L2 : MS) : Prop := m_i L2 = m_i L ∧ m_j L2 = m_j L ∧ m_J L2 = m_J L ∧ (∀ j, j ≠ 3 → m_I L2 j = m_I L j) ∧ ∀ q, (q % 3 = 0 ∨ 3 * n ≤ q) → m_I L2 3 q = m_I L 3 q
theorem Lp.rf {n : Nat} {L : MS} : Lp n L L := ⟨rfl, rfl, rfl, fun _ _ => rfl, fun _ _ => rfl⟩
theorem Lp.tr {n : Nat} {L L2 L3 : MS} (A : Lp n L L2) (B : Lp n L2 L3) : Lp n L L3 := ⟨B.1.trans A.1, B.2.1.trans A.2.1, B.2.2.1.trans A.2.2.1, fun j h => (B.2.2.2.1 j h).trans (A.2.2.2.1 j h), fun q h => (B.2.2.2.2 q h).trans (A.2.2.2.2 q h)⟩
/-- rank and string of player a -/
def prs (L : MS) (a : Nat) : Int32 × Int32 := (m_I L 3 (3 * a + 1), m_I L 3 (3 * a + 2))
theorem Lp.eq {n : Nat} {L L2 : MS} (A : Lp n L L2) (h : ∀ a, a < n → prs L2 a = prs L a) : L2 = L := by
  refine Prod.ext A.1 (Prod.ext A.2.1 (Prod.ext (funext fun j => ?_) A.2.2.1))
  show m_I L2 j = m_I L j
  by_cases hj : j = 3
  · subst hj
    funext q
    by_cases hq : q % 3 = 0 ∨ 3 * n ≤ q
    · exact A.2.2.2.2 q hq
    · have h1 := h (q / 3) (by omega)
      unfold prs at h1
      rw [Prod.mk.injEq] at h1
      have h3 : q = 3 * (q / 3) + 1 ∨ q = 3 * (q / 3) + 2 := by omega
      rcases h3 with h3 | h3
      · rw [h3]; exact h1.1
      · rw [h3]; exact h1.2
  · exact A.2.2.2.1 j hj
def clp20 (v : Int32) : Int32 := if 0 ≤ v then (if v ≤ 20 then v else 20) else 0
def lst (d : Int32) (q : Int32 × Int32) : Int32 × Int32 :=
  if (if q.2 * d ≤ 0 then d else q.2 + d) * d = 3 then (clp20 (q.1 + d), 0) else (q.1, if q.2 * d ≤ 0 then d else q.2 + d)
theorem lst_bst : ∀ q ∈ rdom, ∀ w : Bool, lst (if w = true then 1 else -1) q = bst w q := by decide +kernel
theorem i32_3 : (3 : Int32) = nI 3 := rfl
theorem i32_16 : (16 : Int32) = nI 16 := rfl
theorem i32_32 : (32 : Int32) = nI 32 := rfl
theorem i32_48 : (48 : Int32) = nI 48 := rfl
theorem i32_2 : (2 : Int32) = nI 2 := rfl
theorem at3_1 (a : Nat) : (3 : Int32) * nI a + 1 = nI (3 * a + 1) := by rw [i32_3, pk_mul, nI_1]
theorem at3_2 (a : Nat) : (3 : Int32) * nI a + 2 = nI (3 * a + 2) := by rw [i32_3, i32_2, pk_mul, nI_add]
theorem at3_0 (a : Nat) : (3 : Int32) * nI a = nI (3 * a) := by rw [i32_3, pk_mul]
theorem wr_1 {n a : Nat} (ha : a < n) {L : MS} {v u : Int32} : Lp n L (ms_I (ms_I L 3 (3 * a + 1) v) 3 (3 * a + 2) u) ∧ prs (ms_I (ms_I L 3 (3 * a + 1) v) 3 (3 * a + 2) u) a = (v, u) ∧ ∀ b, b ≠ a → prs (ms_I (ms_I L 3 (3 * a + 1) v) 3 (3 * a + 2) u) b = prs L b := by
  refine ⟨⟨rfl, rfl, rfl, fun j hj => ?_, fun q hq => ?_⟩, ?_, fun b hb => ?_⟩
  · funext q; rw [mI_I, if_neg (by omega), mI_I, if_neg (by omega)]
  · rw [mI_I, if_neg (by omega), mI_I, if_neg (by omega)]
  · unfold prs
    rw [mI_I, if_neg (by omega), mI_I, if_pos ⟨rfl, rfl⟩, mI_I, if_pos ⟨rfl, rfl⟩]
  · unfold prs
    rw [mI_I, if_neg (by omega), mI_I, if_neg (by omega), mI_I, if_neg (by omega), mI_I, if_neg (by omega)]
theorem wr_2 {n a : Nat} (ha : a < n) {L : MS} {u : Int32} : Lp n L (ms_I L 3 (3 * a + 2) u) ∧ prs (ms_I L 3 (3 * a + 2) u) a = (m_I L 3 (3 * a + 1), u) ∧ ∀ b, b ≠ a → prs (ms_I L 3 (3 * a + 2) u) b = prs L b := by
  refine ⟨⟨rfl, rfl, rfl, fun j hj => ?_, fun q hq => ?_⟩, ?_, fun b hb => ?_⟩
  · funext q; rw [mI_I, if_neg (by omega)]
  · rw [mI_I, if_neg (by omega)]
  · unfold prs
    rw [mI_I, if_neg (by omega), mI_I, if_pos ⟨rfl, rfl⟩]
  · unfold prs
    rw [mI_I, if_neg (by omega), mI_I, if_neg (by omega)]
theorem grows_L {n a : Nat} (ha : a < n) (hn : n ≤ 8) (L : MS) (d : Int32) : ∃ L2, fL_grows L (nI a) d = some L2 ∧ Lp n L L2 ∧ prs L2 a = lst d (prs L a) ∧ ∀ b, b ≠ a → prs L2 b = prs L b := by
  have k72 : ∀ (W : MS) (s : Int32), fL_grows_72 W (nI a) s = some (ms_I W 3 (3 * a + 2) s) := fun W s => by
    unfold fL_grows_72
    rw [at3_2, if_pos (xin_nI (by omega) (by omega)), clp (by omega)]
  have k69 : ∀ (W : MS) (v : Int32), fL_grows_69 W (nI a) (nI (3 * a + 1)) v = some (ms_I (ms_I W 3 (3 * a + 1) v) 3 (3 * a + 2) 0) := fun W v => by
    unfold fL_grows_69
    rw [if_pos (xin_nI (by omega) (by omega)), clp (by omega), k72]
  have k21 : ∀ s : Int32, fL_grows_21 L (nI a) d s = some (if s * d = 3 then ms_I (ms_I L 3 (3 * a + 1) (clp20 (m_I L 3 (3 * a + 1) + d))) 3 (3 * a + 2) 0 else ms_I L 3 (3 * a + 2) s) := fun s => by
    unfold fL_grows_21
    by_cases h3 : s * d = 3
    · rw [if_pos h3, if_pos h3, at3_1, if_pos (xin_nI (by omega) (by omega)), clp (by omega), k69, k69, k69]
      unfold clp20
      by_cases h0 : 0 ≤ m_I L 3 (3 * a + 1) + d
      · rw [if_pos h0, if_pos h0]
        by_cases h20 : m_I L 3 (3 * a + 1) + d ≤ 20
        · rw [if_pos h20, if_pos h20]
        · rw [if_neg h20, if_neg h20]
      · rw [if_neg h0, if_neg h0]
    · rw [if_neg h3, if_neg h3, k72]
  have key : ∀ s : Int32, s = (if m_I L 3 (3 * a + 2) * d ≤ 0 then d else m_I L 3 (3 * a + 2) + d) → fL_grows L (nI a) d = fL_grows_21 L (nI a) d s := fun s hs => by
    unfold fL_grows
    rw [at3_2, if_pos (xin_nI (by omega) (by omega)), clp (by omega), hs]
    by_cases h0 : m_I L 3 (3 * a + 2) * d ≤ 0
    · rw [if_pos h0, if_pos h0]
    · rw [if_neg h0, if_neg h0]
  rw [key _ rfl, k21]
  unfold lst
  by_cases h3 : (if m_I L 3 (3 * a + 2) * d ≤ 0 then d else m_I L 3 (3 * a + 2) + d) * d = 3
  · rw [if_pos h3, if_pos (show (if (prs L a).2 * d ≤ 0 then d else (prs L a).2 + d) * d = 3 from h3)]
    exact ⟨_, rfl, wr_1 ha⟩
  · rw [if_neg h3, if_neg (show ¬ (if (prs L a).2 * d ≤ 0 then d else (prs L a).2 + d) * d = 3 from h3)]
    exact ⟨_, rfl, wr_2 ha⟩
/-- a game that has ended, as the law holds it -/
def GH (S L : MS) (n g : Nat) : Prop := g < 16 ∧ ∃ x y hc v e st, x < n ∧ y < n ∧ x ≠ y ∧ hc ≤ 4 ∧ v ≤ 1 ∧ e ≤ 16 ∧ st < 3 ∧ (v = 0 → st ≠ 0) ∧ m_I S 5 g = nI x ∧ m_I S 6 g = nI y ∧ m_I S 9 g = nI v ∧ m_I S 8 g = nI st ∧ m_I L 4 (16 + g) = nI (100 * x + 10 * y + hc) ∧ m_I L 4 (32 + g) = nI st ∧ m_I L 4 (48 + g) = nI (2 * e + v)
theorem GH.eq {S L L2 : MS} {n g : Nat} (h : GH S L n g) (e : m_I L2 4 = m_I L 4) : GH S L2 n g := by unfold GH at *; rw [e]; exact h
theorem gst_1 {S : MS} {g x y : Nat} (h9 : m_I S 9 g = 0) (hx : m_I S 5 g = nI x) (hy : m_I S 6 g = nI y) (hx8 : x < 8) (hy8 : y < 8) (a : Nat) (ha : a < 8) (q : Int32 × Int32) : gst S a q g = if a = x then bst (decide (m_I S 8 g = 1)) q else if a = y then bst (decide (m_I S 8 g = 2)) q else q := by
  unfold gst
  rw [if_pos h9, hx, hy]
  by_cases h1 : a = x
  · rw [if_pos h1, if_pos (by rw [h1])]
  · rw [if_neg h1, if_neg (fun e => h1 ((nI_eq (by omega) (by omega)).mp e).symm)]
    by_cases h2 : a = y
    · rw [if_pos h2, if_pos (by rw [h2])]
    · rw [if_neg h2, if_neg (fun e => h2 ((nI_eq (by omega) (by omega)).mp e).symm)]
theorem finds_43 {S : MS} {n : Nat} (hn : n ≤ 8) : ∀ (l : List Nat) (fu : Nat) (L : MS) (i m : Nat), l.length < fu → i + l.length = m → m ≤ 16 → (∀ j g, l[j]? = some g → m_I L 6 (32 + (i + j)) = nI g) → (∀ g ∈ l, GH S L n g) → (∀ a, a < n → prs L a ∈ rdom) →
    ∃ L2, fL_finds_43 fu L (nI m) (nI i) = some L2 ∧ Lp n L L2 ∧ ∀ a, a < n → prs L2 a = l.foldl (gst S a) (prs L a) := by
  intro l
  induction l with
  | nil =>
    intro fu L i m hf him hm16 _ _ _
    obtain ⟨f, rfl⟩ : ∃ f, fu = f + 1 := ⟨fu - 1, by simp at hf; omega⟩
    rw [fL_finds_43, if_pos (nI_le (by simp at him; omega) (by simp at him; omega))]
    exact ⟨L, rfl, Lp.rf, fun a _ => rfl⟩
  | cons g l ih =>
    intro fu L i m hf him hm16 ho hG hd
    simp only [List.length_cons] at hf him
    obtain ⟨f, rfl⟩ : ∃ f, fu = f + 1 := ⟨fu - 1, by omega⟩
    have h6 : m_I L 6 (32 + i) = nI g := ho 0 g rfl
    obtain ⟨hg16, x, y, hc, v, e, st, hx, hy, hxy, hc4, hv, he, hst, hv0, s5, s6, s9, s8, l16, l32, l48⟩ := hG g List.mem_cons_self
    have next : ∀ L2 : MS, Lp n L L2 → (∀ a, a < n → prs L2 a = gst S a (prs L a) g) → ∃ L3, fL_finds_125 (fL_finds_43 f) L2 (nI m) (nI i) = some L3 ∧ Lp n L L3 ∧ ∀ a, a < n → prs L3 a = (g :: l).foldl (gst S a) (prs L a) := fun L2 A hp => by
      unfold fL_finds_125
      rw [nI_1]
      obtain ⟨L3, h1, h2, h3⟩ := ih f L2 (i + 1) m (by omega) (by omega) hm16 (fun j g2 hj => by
        rw [A.2.2.2.1 6 (by omega), show 32 + (i + 1 + j) = 32 + (i + (j + 1)) by omega]
        exact ho (j + 1) g2 (by simpa using hj)) (fun g2 h => (hG g2 (List.mem_cons_of_mem _ h)).eq (A.2.2.2.1 4 (by omega))) (fun a ha => by rw [hp a ha]; exact gst_dom (hd a ha))
      exact ⟨L3, h1, A.tr h2, fun a ha => by rw [h3 a ha, hp a ha]; rfl⟩
    rw [fL_finds_43, if_neg (nI_ge (by omega) (by omega)), i32_32, i32_48, nI_add, if_pos (xin_nI (by omega) (by omega)), clp (by omega), h6, nI_add, if_pos (xin_nI (by omega) (by omega)), clp (by omega), l48, i32_2, pk_rem (by omega) (by omega) (by omega), show (2 * e + v) % 2 = v by omega]
    by_cases hv1 : v = 0
    · subst hv1
      rw [if_pos nI_0, nI_add, if_pos (xin_nI (by omega) (by omega)), clp (by omega), l32]
      have hst2 : st = 1 ∨ st = 2 := by have := hv0 rfl; omega
      have go : ∀ w : Bool, (decide (m_I S 8 g = 1) = w) → (decide (m_I S 8 g = 2) = !w) → ∃ L2, fL_finds_87 (fL_finds_43 f) L (nI m) (nI i) (nI g) (if w = true then 1 else -1) = some L2 ∧ Lp n L L2 ∧ ∀ a, a < n → prs L2 a = (g :: l).foldl (gst S a) (prs L a) := fun w hw1 hw2 => by
        unfold fL_finds_87
        obtain ⟨L1, a1, a2, a3, a4⟩ := grows_L hx hn L (if w = true then 1 else -1)
        obtain ⟨L2, b1, b2, b3, b4⟩ := grows_L hy hn L1 (-(if w = true then 1 else -1))
        have l16' : m_I L1 4 (16 + g) = nI (100 * x + 10 * y + hc) := by rw [a2.2.2.2.1 4 (by omega)]; exact l16
        rw [i32_16, nI_add, if_pos (xin_nI (by omega) (by omega)), clp (by omega), l16, i32_100, pk_div (by omega) (by omega) (by omega), show (100 * x + 10 * y + hc) / 100 = x by omega, a1, Option.bind_some, l16', i32_10, pk_div (by omega) (by omega) (by omega), pk_rem (by omega) (by omega) (by omega), show (100 * x + 10 * y + hc) / 10 % 10 = y by omega, b1, Option.bind_some]
        have hw3 : -(if w = true then (1 : Int32) else -1) = if (!w) = true then 1 else -1 := by cases w <;> decide
        refine next L2 (a2.tr b2) fun a ha => ?_
        rw [gst_1 (by rw [s9]; rfl) s5 s6 (by omega) (by omega) a (by omega), hw1, hw2]
        by_cases q1 : a = x
        · subst q1
          rw [if_pos rfl, b4 a (by omega), a3]
          exact lst_bst _ (hd a ha) w
        · rw [if_neg q1]
          by_cases q2 : a = y
          · subst q2
            rw [if_pos rfl, b3, hw3, a4 a q1]
            exact lst_bst _ (hd a ha) (!w)
          · rw [if_neg q2, b4 a q2, a4 a q1]
      rcases hst2 with rfl | rfl
      · rw [if_pos (show nI 1 = 1 from rfl)]
        exact go true (by rw [s8]; decide) (by rw [s8]; decide)
      · rw [if_neg (show ¬ nI 2 = 1 by decide)]
        exact go false (by rw [s8]; decide) (by rw [s8]; decide)
    · obtain rfl : v = 1 := by omega
      rw [if_neg (show ¬ nI 1 = 0 by decide)]
      refine next L Lp.rf fun a ha => ?_
      unfold gst
      rw [if_neg (by rw [s9]; decide)]
theorem finds_3 {n m : Nat} (hn : n ≤ 8) : ∀ (d fu : Nat) (L : MS) (i : Nat), i + d = n → d < fu → m_I L 7 0 = nI n →
    ∃ L1, fL_finds_3 fu L (nI m) (nI i) = fL_finds_43 FU L1 (nI m) (nI 0) ∧ Lp n L L1 ∧ ∀ a, a < n → prs L1 a = if i ≤ a then (m_I L 3 (3 * a), 0) else prs L a := by
  intro d
  induction d with
  | zero =>
    intro fu L i hi hf h7
    obtain ⟨f, rfl⟩ : ∃ f, fu = f + 1 := ⟨fu - 1, by omega⟩
    rw [fL_finds_3, show (0 : Int32).toNatClampNeg = 0 by decide, h7, if_pos (nI_le (by omega) (by omega))]
    exact ⟨L, rfl, Lp.rf, fun a ha => by rw [if_neg (by omega)]⟩
  | succ d ih =>
    intro fu L i hi hf h7
    obtain ⟨f, rfl⟩ : ∃ f, fu = f + 1 := ⟨fu - 1, by omega⟩
    rw [fL_finds_3, show (0 : Int32).toNatClampNeg = 0 by decide, h7, if_neg (nI_ge (by omega) (by omega)), at3_0, nI_1, if_pos (xin_nI (by omega) (by omega)), if_pos (xin_nI (by omega) (by omega)), clp (by omega), clp (by omega), Option.bind_some, i32_2, nI_add, if_pos (xin_nI (by omega) (by omega)), clp (by omega), Option.bind_some, nI_1]
    obtain ⟨w1, w2, w3⟩ := wr_1 (n := n) (a := i) (by omega) (L := L) (v := m_I L 3 (3 * i)) (u := 0)
    obtain ⟨L1, h1, h2, h3⟩ := ih f (ms_I (ms_I L 3 (3 * i + 1) (m_I L 3 (3 * i))) 3 (3 * i + 2) 0) (i + 1) (by omega) (by omega) (by rw [w1.2.2.2.1 7 (by omega)]; exact h7)
    refine ⟨L1, h1, w1.tr h2, fun a ha => ?_⟩
    rw [h3 a ha, w1.2.2.2.2 (3 * a) (Or.inl (by omega))]
    by_cases q : i + 1 ≤ a
    · rw [if_pos q, if_pos (by omega)]
    · rw [if_neg q]
      by_cases q2 : a = i
      · subst q2; rw [w2, if_pos (Nat.le_refl _)]
      · rw [w3 a q2, if_neg (by omega)]
/-- what the law's ranks hang on -/
def LK (S L : MS) (n : Nat) (ol : List Nat) : Prop := n ≤ 8 ∧ ol.length ≤ 16 ∧ m_I L 7 0 = nI n ∧ (∀ a, a < n → m_I L 3 (3 * a) = m_I S 0 a ∧ IV (m_I S 0 a) 21) ∧ (∀ j g, ol[j]? = some g → m_I L 6 (32 + j) = nI g) ∧ ∀ g ∈ ol, GH S L n g
theorem LK.lp {S L L2 : MS} {n : Nat} {ol : List Nat} (h : LK S L n ol) (A : Lp n L L2) : LK S L2 n ol := by
  obtain ⟨h1, h2, h3, h4, h5, h6⟩ := h
  exact ⟨h1, h2, by rw [A.2.2.2.1 7 (by omega)]; exact h3, fun a ha => by rw [A.2.2.2.2 (3 * a) (Or.inl (by omega))]; exact h4 a ha, fun j g hj => by rw [A.2.2.2.1 6 (by omega)]; exact h5 j g hj, fun g hg => (h6 g hg).eq (A.2.2.2.1 4 (by omega))⟩
theorem finds_L {S L : MS} {n k : Nat} {ol : List Nat} (H : LK S L n ol) (hk : k ≤ ol.length) : ∃ L2, fL_finds L (nI k) = some L2 ∧ Lp n L L2 ∧ ∀ a, a < n → prs L2 a = stdF S a (ol.take k) := by
  obtain ⟨hn, h16, h7, hp, ho, hG⟩ := id H
  unfold fL_finds
  obtain ⟨L1, h1, A, h3⟩ := finds_3 (m := k) hn n FU L 0 (by omega) (FU_lt (by omega)) h7
  have H1 := H.lp A
  have hlen : (ol.take k).length = k := by rw [List.length_take]; omega
  obtain ⟨L2, g1, g2, g3⟩ := finds_43 (S := S) hn (ol.take k) FU L1 0 k (by rw [hlen]; exact FU_lt (by omega)) (by rw [hlen]; omega) (by omega) (fun j g hj => by
    rw [Nat.zero_add]
    refine H1.2.2.2.2.1 j g ?_
    rw [List.getElem?_take] at hj
    split at hj
    · exact hj
    · cases hj) (fun g hg => H1.2.2.2.2.2 g (List.mem_of_mem_take hg)) (fun a ha => by
    rw [h3 a ha, if_pos (by omega), (hp a ha).1]
    exact rdom_0 (hp a ha).2)
  refine ⟨L2, h1.trans g1, A.tr g2, fun a ha => ?_⟩
  rw [g3 a ha, h3 a ha, if_pos (by omega), (hp a ha).1]
  rfl
theorem told_num : ∀ r, r < 21 → ∀ s, s < 21 → ((0 : Int32) ≤ nI s - nI r ↔ ¬ nI s < nI r) ∧ (if (if (0 : Int32) ≤ nI s - nI r then nI s - nI r else -(nI s - nI r)) ≤ 4 then (if (0 : Int32) ≤ nI s - nI r then nI s - nI r else -(nI s - nI r)) else 4) = x_min 4 (x_abs (nI r - nI s)) := by decide +kernel
/-- colours and handicap by the ranks that the law holds -/
theorem told_L {S L : MS} {n a b : Nat} {l : List Nat} (hn : n ≤ 8) (ha : a < n) (hb : b < n) (hpa : prs L a = stdF S a l) (hpb : prs L b = stdF S b l) (hva : IV (m_I S 0 a) 21) (hvb : IV (m_I S 0 b) 21) : fL_told L (nI a) (nI b) = some (pairV S a b l) := by
  obtain ⟨r, hr, er⟩ := rdom_r _ (stdF_dom (l := l) hva)
  obtain ⟨s, hs, es⟩ := rdom_r _ (stdF_dom (l := l) hvb)
  have e1 : m_I L 3 (3 * a + 1) = nI r := by rw [← er, ← hpa]; rfl
  have e2 : m_I L 3 (3 * b + 1) = nI s := by rw [← es, ← hpb]; rfl
  obtain ⟨t1, t2⟩ := told_num r hr s hs
  unfold fL_told pairV
  rw [at3_1, at3_1, if_pos (xin_nI (by omega) (by omega)), if_pos (xin_nI (by omega) (by omega)), clp (by omega), clp (by omega), e1, e2, er, es]
  unfold fL_told_26 fL_told_40
  by_cases h0 : (0 : Int32) ≤ nI s - nI r
  · rw [if_pos h0, if_neg (t1.mp h0)]
    rw [if_pos h0] at t2
    by_cases h4 : nI s - nI r ≤ 4
    · rw [if_pos h4, if_pos h0]
      rw [if_pos h4] at t2
      rw [t2]
    · rw [if_neg h4, if_pos h0]
      rw [if_neg h4] at t2
      exact congrArg (fun z => some (100 * nI a + 10 * nI b + z)) t2
  · rw [if_neg h0, if_pos (Decidable.byContradiction fun z => h0 (t1.mpr z))]
    rw [if_neg h0] at t2
    by_cases h4 : -(nI s - nI r) ≤ 4
    · rw [if_pos h4, if_neg h0]
      rw [if_pos h4] at t2
      rw [t2]
    · rw [if_neg h4, if_neg h0]
      rw [if_neg h4] at t2
      exact congrArg (fun z => some (100 * nI b + 10 * nI a + z)) t2
/-- the ranks that the law holds are those of all games that have ended -/
def LRk (S L : MS) (n : Nat) (ol : List Nat) : Prop := ∀ a, a < n → prs L a = stdF S a ol
/-- a game's beginning, as the law holds it -/
def GB (S L : MS) (n g E : Nat) : Prop := g < 16 ∧ ∃ a b e v, a < n ∧ b < n ∧ e ≤ E ∧ v ≤ 1 ∧ m_I S 3 g = nI a ∧ m_I S 4 g = nI b ∧ m_I S 10 g = nI e ∧ m_I S 9 g = nI v ∧ m_I L 4 g = nI (10 * a + b) ∧ m_I L 4 (48 + g) = nI (2 * e + v) ∧ m_I L 4 (16 + g) = hv S g
theorem due_L {S L : MS} {n g : Nat} {ol : List Nat} (H : LK S L n ol) (hR : LRk S L n ol) (h3 : m_I L 7 3 = nI ol.length) (hB : GB S L n g ol.length) : fL_due L (nI g) = some (dv S ol g, L) := by
  obtain ⟨hg, a, b, e, v, ha, hb, he, hv, s3, s4, s10, s9, l0, l48, l16⟩ := hB
  have hn := H.1
  have h16 := H.2.1
  obtain ⟨L2, f1, f2, f3⟩ := finds_L H he
  obtain ⟨L3, g1, g2, g3⟩ := finds_L (H.lp f2) (Nat.le_refl _)
  have e3 : L3 = L := (f2.tr g2).eq fun a ha => by rw [g3 a ha, List.take_length, hR a ha]
  have l0' : m_I L2 4 g = nI (10 * a + b) := by rw [f2.2.2.2.1 4 (by omega)]; exact l0
  have h3' : m_I L2 7 3 = nI ol.length := by rw [f2.2.2.2.1 7 (by omega)]; exact h3
  have ht := told_L hn ha hb (f3 a ha) (f3 b hb) (H.2.2.2.1 a ha).2 (H.2.2.2.1 b hb).2
  unfold fL_due
  rw [i32_48, nI_add, if_pos (xin_nI (by omega) (by omega)), clp (by omega), l48, i32_2, pk_div (by omega) (by omega) (by omega), show (2 * e + v) / 2 = e by omega, f1, Option.bind_some, if_pos (xin_nI (by omega) (by omega)), clp (by omega), l0', i32_10, pk_rem (by omega) (by omega) (by omega), pk_div (by omega) (by omega) (by omega), show (10 * a + b) / 10 = a by omega, show (10 * a + b) % 10 = b by omega, ht, Option.bind_some, show (3 : Int32).toNatClampNeg = 3 by decide, h3', g1, Option.bind_some, e3]
  unfold dv
  rw [s3, s4, s10, clp (by omega), clp (by omega), clp (by omega)]
theorem ofs_or {S : MS} {ol : List Nat} (k : Nat) : ofs S ol (k + 1) = ofs S ol k ||| (if ofb S ol k = true then x_ishl 1 (nI k) else 0) := by
  rw [ofs]
  by_cases h : ofb S ol k = true
  · rw [if_pos h, if_pos h]
  · rw [if_neg h, if_neg h]; simp
theorem off_6 {S L : MS} {n G : Nat} {ol : List Nat} (H : LK S L n ol) (hR : LRk S L n ol) (h3 : m_I L 7 3 = nI ol.length) (h1 : m_I L 7 1 = nI G) (hG : G ≤ 16) (hB : ∀ g, g < G → GB S L n g ol.length) : ∀ (d fu i : Nat), i + d = G → d < fu → fL_off_6 fu L (ofs S ol i) (nI i) = some (ofs S ol G, L) := by
  intro d
  induction d with
  | zero =>
    intro fu i hi hf
    obtain ⟨f, rfl⟩ : ∃ f, fu = f + 1 := ⟨fu - 1, by omega⟩
    obtain rfl : i = G := by omega
    rw [fL_off_6, show (1 : Int32).toNatClampNeg = 1 by decide, h1, if_pos (nI_le (by omega) (by omega))]
  | succ d ih =>
    intro fu i hi hf
    obtain ⟨f, rfl⟩ : ∃ f, fu = f + 1 := ⟨fu - 1, by omega⟩
    have hD := due_L H hR h3 (hB i (by omega))
    obtain ⟨hg, a, b, e, v, ha, hb, he, hvv, s3, s4, s10, s9, l0, l48, l16⟩ := hB i (by omega)
    have hE := H.2.1
    have go : ∀ s : Int32, s = (if ofb S ol i = true then x_ishl 1 (nI i) else 0) → fL_off_55 (fL_off_6 f) L (nI i) (ofs S ol i) s = some (ofs S ol G, L) := fun s hs => by
      unfold fL_off_55
      rw [hs, ← ofs_or, nI_1]
      exact ih f (i + 1) (by omega) (by omega)
    rw [fL_off_6, show (1 : Int32).toNatClampNeg = 1 by decide, h1, if_neg (nI_ge (by omega) (by omega)), i32_48, nI_add, if_pos (xin_nI (by omega) (by omega)), clp (by omega), l48, i32_2, pk_rem (by omega) (by omega) (by omega), show (2 * e + v) % 2 = v by omega]
    by_cases hv0 : v = 0
    · subst hv0
      rw [if_pos nI_0, hD, Option.bind_some]
      dsimp only
      rw [i32_16, nI_add, if_pos (xin_nI (by omega) (by omega)), clp (by omega), l16]
      by_cases hd : dv S ol i = hv S i
      · rw [if_pos hd]
        refine go 0 ?_
        rw [if_neg]
        unfold ofb
        rw [decide_eq_true hd]; simp
      · rw [if_neg hd]
        refine go _ ?_
        rw [if_pos]
        unfold ofb
        rw [decide_eq_false hd, decide_eq_true (show m_I S 9 i = 0 from s9)]; rfl
    · obtain rfl : v = 1 := by omega
      rw [if_neg (show ¬ nI 1 = 0 by decide)]
      refine go 0 ?_
      rw [if_neg]
      unfold ofb
      rw [decide_eq_false (by rw [s9]; decide)]; simp
theorem off_L {S L : MS} {n G : Nat} {ol : List Nat} (H : LK S L n ol) (hR : LRk S L n ol) (h3 : m_I L 7 3 = nI ol.length) (h1 : m_I L 7 1 = nI G) (hG : G ≤ 16) (hB : ∀ g, g < G → GB S L n g ol.length) : fL_off L = some (ofs S ol G, L) :=
  off_6 H hR h3 h1 hG hB G FU 0 (by omega) (FU_lt (by omega))
