/-! P26 4: what ties the law's rows to the reference's; what the class's calls that only read answer. -/
def LGm (S L : MS) (g : Nat) : Prop := m_I L 4 g = 10 * m_I S 3 g + m_I S 4 g ∧ m_I L 4 (16 + g) = hv S g ∧ m_I L 4 (32 + g) = m_I S 8 g ∧ m_I L 4 (48 + g) = 2 * m_I S 10 g + m_I S 9 g ∧ m_I L 5 g = m_I S 14 (2 * g) ∧ m_I L 5 (16 + g) = m_I S 14 (2 * g + 1) ∧ m_I L 5 (32 + g) = 10 * m_I S 15 (2 * g) + m_I S 15 (2 * g + 1) ∧ m_I L 5 (48 + g) = m_I S 16 g ∧ m_I L 6 g = m_I S 12 g ∧ m_I L 6 (16 + g) = m_I S 13 g
/-- the law's positions of a game are those of the reference, the latest is the game's -/
def LBo (S L : MS) (P Q g : Nat) : Prop := ∃ l A, m_I S 11 g = nI A ∧ WM S P A l ∧ (∃ j, j < Q ∧ m_I L 2 j = nI g) ∧ (∀ x, x ∈ l ↔ ∃ j, j < Q ∧ m_I L 2 j = nI g ∧ (m_J L 0 j, m_J L 1 j) = x) ∧ l.head? = some (m_J L 0 (lat L g Q), m_J L 1 (lat L g Q))
def LNd (S L : MS) (i : Nat) : Prop := m_I L 8 i = (m_I S 28 i + 1) + 64 * (m_I S 30 i + 2) ∧ (∀ k, k < 4 → IV (m_I S 36 (4 * i + k)) 4) ∧ m_I L 9 i = m_I S 36 (4 * i) + 4 * m_I S 36 (4 * i + 1) + 16 * m_I S 36 (4 * i + 2) + 64 * m_I S 36 (4 * i + 3)
def LT (S L : MS) (J n G E Q N P : Nat) : Prop := (m_i S 0 = nI n ∧ m_i S 4 = nI G ∧ m_i S 19 = nI E ∧ m_i S 36 = nI N ∧ m_i S 21 = nI P) ∧ (n ≤ 8 ∧ G ≤ 16 ∧ E ≤ 16 ∧ N ≤ 51 ∧ Q ≤ J ∧ P ≤ 4000) ∧ (m_I L 7 0 = nI n ∧ m_I L 7 1 = nI G ∧ m_I L 7 2 = nI Q ∧ m_I L 7 3 = nI E ∧ m_I L 7 4 = nI N) ∧
  (∀ a, a < n → m_I L 3 (3 * a) = m_I S 0 a ∧ m_I L 3 (3 * a + 1) = m_I S 1 a ∧ m_I L 3 (3 * a + 2) = m_I S 2 a) ∧ (∀ g, g < G → LGm S L g ∧ LBo S L P Q g) ∧ (∀ g, G ≤ g → g < 16 → m_I L 6 g = 0 ∧ m_I L 6 (16 + g) = 0 ∧ ∀ j, j < Q → m_I L 2 j ≠ nI g) ∧ (∀ j, j < E → m_I L 6 (32 + j) = m_I S 17 j) ∧ ∀ i, i < N → LNd S L i
theorem WM.uniq {S : MS} {P : Nat} (hP : P ≤ 4096) : ∀ (l l2 : List BW) (A : Nat), WM S P A l → WM S P A l2 → l = l2 := by
  intro l
  induction l with
  | nil => intro l2 A h1 _; exact h1.elim
  | cons x t ih =>
    intro l2 A h1 h2
    cases l2 with
    | nil => exact h2.elim
    | cons y t2 =>
      obtain ⟨a1, a2, a3, a4, a5⟩ := h1
      obtain ⟨b1, b2, b3, b4, b5⟩ := h2
      have e : x = y := Prod.ext (a2.symm.trans b2) (a3.symm.trans b3)
      subst e
      congr 1
      cases t with
      | nil =>
        cases t2 with
        | nil => rfl
        | cons z t2 =>
          obtain ⟨A', c1, c2⟩ := b5 (by simp)
          have := a4 rfl
          rw [c1] at this
          exact absurd this (nI_nm1 (by have := c2.1; omega))
      | cons z t =>
        obtain ⟨A', c1, c2⟩ := a5 (by simp)
        cases t2 with
        | nil =>
          have := b4 rfl
          rw [c1] at this
          exact absurd this (nI_nm1 (by have := c2.1; omega))
        | cons z2 t2 =>
          obtain ⟨A2, d1, d2⟩ := b5 (by simp)
          have e2 : A' = A2 := (nI_eq (by have := c2.1; omega) (by have := d2.1; omega)).mp (c1.symm.trans d1)
          subst e2
          exact ih _ A' c2 d2
section READS
variable {u mo : Nat} {h : TH} {S : MS} {t c s n G N P : Nat} {gm nd : Nat → Nat} {gl nl : Nat → List BW} {ol : List Nat} {kp : Nat → Bool}
theorem Rel.ld (H : Rel u mo h S t c s n G N P gm nd gl nl ol kp) : LDp mo h := H.2.2.2.2.2.2
theorem Rel.Z {z : Nat} (H : Rel u mo h S t c s n G N P gm nd gl nl ol kp) (hz : t_sz h ≤ z) : Rel u mo (s_Z h z) S t c s n G N P gm nd gl nl ol kp := H.xt ⟨Bx.rf.Z hz, fun _ _ => ⟨rfl, rfl⟩⟩ (H.ld.Z hz)
theorem matchOf_g (H : Rel u mo h S t c s n G N P gm nd gl nl ol kp) {g : Nat} (hg : g < G) : fX8_matchOf h t (nI g) = some (.inl (some (gm g), h)) := by
  have h16 := H.G16
  rcases matchOf_X8 H (nI g) with ⟨g2, hg2, e2, e⟩ | ⟨e1, e⟩
  · have e3 : g = g2 := (nI_eq (by omega) (by omega)).mp e2
    subst e3; exact e
  · rw [isN_nI hg (by omega)] at e1; cases e1
theorem matchOf_no (H : Rel u mo h S t c s n G N P gm nd gl nl ol kp) {x : Int32} (hx : isN x G = false) : fX8_matchOf h t x = some (.inr (eI, h)) := by
  have h16 := H.G16
  rcases matchOf_X8 H x with ⟨g2, hg2, e2, e⟩ | ⟨e1, e⟩
  · rw [e2, isN_nI hg2 (by omega)] at hx; cases hx
  · exact e
theorem twigOf_i (H : Rel u mo h S t c s n G N P gm nd gl nl ol kp) {i : Nat} (hi : i < N) : fX8_twigOf h t (nI i) = some (.inl (some (nd i), h)) := by
  have h60 := H.N60
  rcases twigOf_X8 H (nI i) with ⟨g2, hg2, e2, e⟩ | ⟨e1, e⟩
  · have e3 : i = g2 := (nI_eq (by omega) (by omega)).mp e2
    subst e3; exact e
  · rw [isN_nI hi (by omega)] at e1; cases e1
theorem twigOf_no (H : Rel u mo h S t c s n G N P gm nd gl nl ol kp) {x : Int32} (hx : isN x N = false) : fX8_twigOf h t x = some (.inr (eI, h)) := by
  have h60 := H.N60
  rcases twigOf_X8 H x with ⟨g2, hg2, e2, e⟩ | ⟨e1, e⟩
  · rw [e2, isN_nI hg2 (by omega)] at hx; cases hx
  · exact e
theorem isN_end {n : Nat} (hn : n < 2 ^ 31) : isN (nI n) n = false := by
  unfold isN
  rw [decide_eq_false (nI_nlt (Nat.le_refl _) hn), Bool.and_false]
theorem isN_m1 {n : Nat} : isN (-1) n = false := by unfold isN; rfl
theorem rd_rank (H : Rel u mo h S t c s n G N P gm nd gl nl ol kp) {a : Nat} (ha : a < n) : fX8_rank h t (nI a) = some (.inl (told2 (stdF S a ol), h)) := by
  have h8 := H.2.1.1
  unfold fX8_rank
  rw [if_pos H.1.1, requirePlayer_X8 H, Option.bind_some, isN_nI ha (by omega), if_pos rfl, xcs_1, if_pos H.1.1, H.1.2.1, Option.bind_some, if_pos H.cb.1]
  have hr1 := H.2.1.2.2.2 a ha
  have hol := H.2.2.2.1.2.1
  have hlen : (ol.filter kp).length ≤ 16 := Nat.le_trans (List.length_filter_le _ _) hol
  have hst := standing_X2 (S := S) (gm := gm) H.cb (show a < 8 by omega) hlen H.2.2.2.1.2.2.2.2.2.2.2.1 (fun g hg => H.mg (List.mem_filter.mp hg).1) hr1.2 hr1.1
  have hf : stdF S a (ol.filter kp) = stdF S a ol := gfold_filter _ _ (fun g hg hk => H.2.2.2.1.2.2.2.2.2.2.2.2.1 g hg hk)
  rw [hf] at hst
  rw [H.2.2.2.1.2.2.2.2.2.2.1, hst, Option.bind_some]
theorem rx_rank (H : Rel u mo h S t c s n G N P gm nd gl nl ol kp) {x : Int32} (hx : isN x n = false) : fX8_rank h t x = some (.inr (eI, h)) := by
  unfold fX8_rank
  rw [if_pos H.1.1, requirePlayer_X8 H, Option.bind_some, hx, if_neg ff, xcs_2]
theorem rd_state (H : Rel u mo h S t c s n G N P gm nd gl nl ol kp) {g : Nat} (hg : g < G) : fX8_state h t (nI g) = some (.inl (m_I S 8 g + (if m_I S 9 g = 0 then 0 else 10), h)) := by
  unfold fX8_state
  rw [if_pos H.1.1, matchOf_g H hg, Option.bind_some, xcs_1]
  dsimp only
  rw [Option.bind_some, if_pos (H.gM hg).k3, told_X3 H hg, Option.bind_some]
theorem rx_state (H : Rel u mo h S t c s n G N P gm nd gl nl ol kp) {x : Int32} (hx : isN x G = false) : fX8_state h t x = some (.inr (eI, h)) := by
  unfold fX8_state
  rw [if_pos H.1.1, matchOf_no H hx, Option.bind_some, xcs_2]
theorem rd_handicap (H : Rel u mo h S t c s n G N P gm nd gl nl ol kp) {g : Nat} (hg : g < G) : fX8_handicap h t (nI g) = some (.inl (hv S g, h)) := by
  unfold fX8_handicap
  rw [if_pos H.1.1, matchOf_g H hg, Option.bind_some, xcs_1]
  dsimp only
  rw [Option.bind_some, if_pos (H.gM hg).k3, hv_X2 H hg]
theorem rx_handicap (H : Rel u mo h S t c s n G N P gm nd gl nl ol kp) {x : Int32} (hx : isN x G = false) : fX8_handicap h t x = some (.inr (eI, h)) := by
  unfold fX8_handicap
  rw [if_pos H.1.1, matchOf_no H hx, Option.bind_some, xcs_2]
theorem rd_due (H : Rel u mo h S t c s n G N P gm nd gl nl ol kp) {g : Nat} (hg : g < G) : fX8_due h t (nI g) = some (.inl (dv S ol g, h)) := by
  unfold fX8_due
  rw [if_pos H.1.1, matchOf_g H hg, Option.bind_some, xcs_1]
  dsimp only
  rw [H.1.2.1, Option.bind_some, if_pos H.cb.1, due_X2 H hg, Option.bind_some]
theorem rx_due (H : Rel u mo h S t c s n G N P gm nd gl nl ol kp) {x : Int32} (hx : isN x G = false) : fX8_due h t x = some (.inr (eI, h)) := by
  unfold fX8_due
  rw [if_pos H.1.1, matchOf_no H hx, Option.bind_some, xcs_2]
theorem rd_score (H : Rel u mo h S t c s n G N P gm nd gl nl ol kp) {g : Nat} (hg : g < G) {x : BW} {l : List BW} (hl : gl g = x :: l) : fX8_score h t (nI g) = some (.inl (Int32.ofInt (sco x - if m_I S 7 g = 0 then 6 else 0), h)) := by
  obtain ⟨q, A, x2, l2, e0, a1, a2, a3, a4, a5, a6⟩ := H.pos hg
  rw [hl] at e0
  obtain ⟨rfl, rfl⟩ := List.cons.inj e0
  unfold fX8_score
  rw [if_pos H.1.1, matchOf_g H hg, Option.bind_some, xcs_1]
  dsimp only
  rw [Option.bind_some, if_pos (H.gM hg).k3, lead_X3 H hg a1 a2 a5, Option.bind_some]
theorem rx_score (H : Rel u mo h S t c s n G N P gm nd gl nl ol kp) {x : Int32} (hx : isN x G = false) : fX8_score h t x = some (.inr (eI, h)) := by
  unfold fX8_score
  rw [if_pos H.1.1, matchOf_no H hx, Option.bind_some, xcs_2]
theorem rd_clock (H : Rel u mo h S t c s n G N P gm nd gl nl ol kp) {g k : Nat} (hg : g < G) (hk : k < 2) : fX8_clock h t (nI g) (nI k) = some (.inl ((10 : Int32) * m_I S 14 (2 * g + k) + m_I S 15 (2 * g + k), h)) := by
  have hGM := H.gM hg
  have hCK := hGM.2.2.2.2.2.2.2.2
  obtain ⟨k1, k2, k3, -⟩ := hCK.2.2.2 k hk
  have hck : fX8_clock_25 h t (nI k) (some (gm g)) = some (.inl ((10 : Int32) * m_I S 14 (2 * g + k) + m_I S 15 (2 * g + k), h)) := by
    unfold fX8_clock_25 fX3_clockOf
    rw [Option.bind_some, if_pos hGM.k3]
    have hp2 := hGM.1
    have : k = 0 ∨ k = 1 := by omega
    rcases this with rfl | rfl
    · rw [Nat.add_zero (gm g - 2)] at k1 k2 k3
      rw [if_pos (show nI 0 = 0 from rfl), if_pos hGM.k3, hCK.1, Option.bind_some, Option.bind_some, if_pos k1]
      unfold fX1_reading
      rw [if_pos k1, k2, k3]; rfl
    · rw [if_neg (show ¬ nI 1 = 0 by decide), if_pos hGM.k3, hCK.2.1, Option.bind_some, Option.bind_some]
      rw [show gm g - 2 + 1 = gm g - 1 by omega] at k1 k2 k3
      rw [if_pos k1]
      unfold fX1_reading
      rw [if_pos k1, k2, k3]; rfl
  unfold fX8_clock
  rw [if_pos H.1.1, matchOf_g H hg, Option.bind_some, xcs_1]
  dsimp only
  have : k = 0 ∨ k = 1 := by omega
  rcases this with rfl | rfl
  · rw [if_pos (show nI 0 = 0 from rfl)]; exact hck
  · rw [if_neg (show ¬ nI 1 = 0 by decide), if_pos (show nI 1 = 1 from rfl)]; exact hck
theorem rx_clock (H : Rel u mo h S t c s n G N P gm nd gl nl ol kp) {g : Nat} (hg : g < G) : fX8_clock h t (nI g) (2 : Int32) = some (.inr (eI, h)) := by
  unfold fX8_clock
  rw [if_pos H.1.1, matchOf_g H hg, Option.bind_some, xcs_1]
  dsimp only
  rw [if_neg (by decide), if_neg (by decide)]; rfl
theorem rx_sign (H : Rel u mo h S t c s n G N P gm nd gl nl ol kp) {g : Nat} (hg : g < G) : fX8_sign h t (nI g) (49 : Int32) = some (.inr (eI, h)) := by
  unfold fX8_sign
  rw [if_pos H.1.1, matchOf_g H hg, Option.bind_some, xcs_1]
  dsimp only
  rw [point_X8, Option.bind_some, if_neg (by decide), xcs_2]; rfl
theorem rd_sign (H : Rel u mo h S t c s n G N P gm nd gl nl ol kp) {g p : Nat} (hg : g < G) (hp : p < 49) {b : BW} {l : List BW} (hl : gl g = b :: l) : fX8_sign h t (nI g) (nI p) = some (.inl (if bt b.1 p = true then 88 else if bt b.2 p = true then 79 else 46, h)) := by
  obtain ⟨q, A, x2, l2, e0, a1, a2, a3, a4, a5, a6⟩ := H.pos hg
  rw [hl] at e0
  obtain ⟨rfl, rfl⟩ := List.cons.inj e0
  unfold fX8_sign
  rw [if_pos H.1.1, matchOf_g H hg, Option.bind_some, xcs_1]
  dsimp only
  rw [point_X8, Option.bind_some, isN_nI hp (by omega), if_pos rfl, xcs_1, Option.bind_some, if_pos (H.gM hg).k3, a1, Option.bind_some, if_pos a2.1]
  unfold fX4_signAt
  rw [if_pos a2.1, a2.2.1, a2.2.2.1, pt_nI]
  by_cases h1 : bt b.1 p = true
  · rw [if_neg (fun z => by rw [(and_pt0 (by omega)).mp z] at h1; cases h1), if_pos h1]; rfl
  · rw [if_pos ((and_pt0 (by omega)).mpr (by simpa using h1)), if_neg h1]
    by_cases h2 : bt b.2 p = true
    · rw [if_neg (fun z => by rw [(and_pt0 (by omega)).mp z] at h2; cases h2), if_pos h2]; rfl
    · rw [if_pos ((and_pt0 (by omega)).mpr (by simpa using h2)), if_neg h2]; rfl
theorem rd_liberties (H : Rel u mo h S t c s n G N P gm nd gl nl ol kp) {g p : Nat} (hg : g < G) (hp : p < 49) {b : BW} {l : List BW} (hl : gl g = b :: l) : fX8_liberties h t (nI g) (nI p) = some (.inl (nI (lbc b p), h)) := by
  have hpm := (H.pm hg).2.2.2.2.2.2
  unfold fX8_liberties
  rw [if_pos H.1.1, matchOf_g H hg, Option.bind_some, xcs_1]
  dsimp only
  rw [point_X8, Option.bind_some, isN_nI hp (by omega), if_pos rfl, xcs_1, Option.bind_some, if_pos (H.gM hg).k3]
  unfold fX3_keptLiberties
  rw [if_neg (nI_pos (by omega)), if_pos (H.gM hg).k3, hpm.1, Option.bind_some, if_pos hpm.2.1, hpm.2.2.1, if_pos (nI_lt hp (by omega)), if_pos (xin_nI hp (by omega)), clp (by omega), hpm.2.2.2 b (by rw [hl]; rfl) p hp]
  rfl
theorem rx_liberties (H : Rel u mo h S t c s n G N P gm nd gl nl ol kp) {g : Nat} (hg : g < G) : fX8_liberties h t (nI g) (-1 : Int32) = some (.inr (eI, h)) := by
  unfold fX8_liberties
  rw [if_pos H.1.1, matchOf_g H hg, Option.bind_some, xcs_1]
  dsimp only
  rw [point_X8, Option.bind_some, if_neg (by decide), xcs_2]; rfl
theorem rd_flooded (H : Rel u mo h S t c s n G N P gm nd gl nl ol kp) {g p : Nat} (hg : g < G) (hp : p < 49) {b : BW} {l : List BW} (hl : gl g = b :: l) : fX8_flooded h t (nI g) (nI p) = some (.inl (nI (lbc b p), h)) := by
  obtain ⟨q, A, x2, l2, e0, a1, a2, a3, a4, a5, a6⟩ := H.pos hg
  rw [hl] at e0
  obtain ⟨rfl, rfl⟩ := List.cons.inj e0
  unfold fX8_flooded
  rw [if_pos H.1.1, matchOf_g H hg, Option.bind_some, xcs_1]
  dsimp only
  rw [point_X8, Option.bind_some, isN_nI hp (by omega), if_pos rfl, xcs_1, Option.bind_some, if_pos (H.gM hg).k3, a1, Option.bind_some, if_pos a2.1, countLiberties_X4 a2.1 a2.2.1 a2.2.2.1 a5 hp, Option.bind_some]
theorem rx_flooded (H : Rel u mo h S t c s n G N P gm nd gl nl ol kp) {g : Nat} (hg : g < G) : fX8_flooded h t (nI g) (49 : Int32) = some (.inr (eI, h)) := by
  unfold fX8_flooded
  rw [if_pos H.1.1, matchOf_g H hg, Option.bind_some, xcs_1]
  dsimp only
  rw [point_X8, Option.bind_some, if_neg (by decide), xcs_2]; rfl
theorem rd_node (H : Rel u mo h S t c s n G N P gm nd gl nl ol kp) {i : Nat} (hi : i < N) : fX8_node h t (nI i) = some (.inl (ndV S N i, h)) := by
  unfold fX8_node
  rw [if_pos H.1.1, twigOf_i H hi, Option.bind_some, xcs_1]
  dsimp only
  rw [Option.bind_some, if_pos (H.nm hi).1, told_X7 H hi, Option.bind_some]
theorem rx_node (H : Rel u mo h S t c s n G N P gm nd gl nl ol kp) {x : Int32} (hx : isN x N = false) : fX8_node h t x = some (.inr (eI, h)) := by
  unfold fX8_node
  rw [if_pos H.1.1, twigOf_no H hx, Option.bind_some, xcs_2]
/-! what asks comes to -/
def AX (lo t : Nat) (h : TH) (L : MS) (K : Int32 → TH → MS → Prop) (r : Option ((Int32 × TH) ⊕ (String × TH))) : Prop :=
  t_kd h t = 7 ∧ ((∃ v h2, r = some (.inl (v, h2)) ∧ LDp lo h2 ∧ K v h2 L) ∨ (∃ h2, r = some (.inr ("java/lang/IndexOutOfBoundsException", h2)) ∧ LDp lo h2 ∧ ∀ z, t_sz h2 ≤ z → K (-3000 : Int32) (s_Z h2 z) L))
theorem AX.err {K : Int32 → TH → MS → Prop} {L : MS} {r : Option ((Int32 × TH) ⊕ (String × TH))} (H : Rel u mo h S t c s n G N P gm nd gl nl ol kp) (e : r = some (.inr (eI, h))) (k : ∀ z, t_sz h ≤ z → K (-3000 : Int32) (s_Z h z) L) : AX mo t h L K r := ⟨H.1.1, Or.inr ⟨h, e, H.ld, k⟩⟩
end READS
section ASKS
variable {lo t Ls : Nat} {xs : Nat → Int32} {K : Int32 → TH → MS → Prop} {h : TH} {L : MS} {a b : Int32}
theorem asks_0 (k : AX lo t h L K (fX8_rank h t a)) : gL_asks lo t Ls xs K h L 0 a b := by unfold gL_asks; rw [if_pos rfl]; exact k
theorem asks_1 (k : AX lo t h L K (fX8_state h t a)) : gL_asks lo t Ls xs K h L 1 a b := by unfold gL_asks; rw [if_neg (by decide), if_pos rfl]; exact k
theorem asks_2 (k : AX lo t h L K (fX8_handicap h t a)) : gL_asks lo t Ls xs K h L 2 a b := by unfold gL_asks; rw [if_neg (by decide), if_neg (by decide), if_pos rfl]; exact k
theorem asks_3 (k : AX lo t h L K (fX8_sign h t a b)) : gL_asks lo t Ls xs K h L 3 a b := by unfold gL_asks; rw [if_neg (by decide), if_neg (by decide), if_neg (by decide), if_pos rfl]; exact k
theorem asks_4 (k : AX lo t h L K (fX8_clock h t a b)) : gL_asks lo t Ls xs K h L 4 a b := by unfold gL_asks; rw [if_neg (by decide), if_neg (by decide), if_neg (by decide), if_neg (by decide), if_pos rfl]; exact k
theorem asks_5 (k : AX lo t h L K (fX8_score h t a)) : gL_asks lo t Ls xs K h L 5 a b := by unfold gL_asks; rw [if_neg (by decide), if_neg (by decide), if_neg (by decide), if_neg (by decide), if_neg (by decide), if_pos rfl]; exact k
theorem asks_6 (k : AX lo t h L K (fX8_liberties h t a b)) : gL_asks lo t Ls xs K h L 6 a b := by unfold gL_asks; rw [if_neg (by decide), if_neg (by decide), if_neg (by decide), if_neg (by decide), if_neg (by decide), if_neg (by decide), if_pos rfl]; exact k
theorem asks_7 (k : AX lo t h L K (fX8_flooded h t a b)) : gL_asks lo t Ls xs K h L 7 a b := by unfold gL_asks; rw [if_neg (by decide), if_neg (by decide), if_neg (by decide), if_neg (by decide), if_neg (by decide), if_neg (by decide), if_neg (by decide), if_pos rfl]; exact k
theorem asks_8 (k : AX lo t h L K (fX8_due h t a)) : gL_asks lo t Ls xs K h L 8 a b := by unfold gL_asks; rw [if_neg (by decide), if_neg (by decide), if_neg (by decide), if_neg (by decide), if_neg (by decide), if_neg (by decide), if_neg (by decide), if_neg (by decide), if_pos rfl]; exact k
theorem asks_9 (k : AX lo t h L K (fX8_node h t a)) : gL_asks lo t Ls xs K h L 9 a b := by unfold gL_asks; rw [if_neg (by decide), if_neg (by decide), if_neg (by decide), if_neg (by decide), if_neg (by decide), if_neg (by decide), if_neg (by decide), if_neg (by decide), if_neg (by decide)]; exact k
end ASKS
