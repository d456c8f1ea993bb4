/-! PURE 13: reading, told once for both. -/
def DJ (X H : Int64) : Prop := inA X ∧ inA H ∧ ∀ i, bt X i = true → bt H i = true → False
def libs (X H : Int64) (p : Nat) : Int64 := fr (fl (pt p) X) X H
def tset (al : Int32) (L X H : Int64) : Int64 := if al = 2 then L else L ||| fr L X H
theorem fr_comm (c b w : Int64) : fr c b w = fr c w b := bt_ext fun i _ => by rw [bt_fr, bt_fr, Bool.and_comm (!bt b i)]
theorem bt_fr_t {c b w : Int64} {i : Nat} : bt (fr c b w) i = true ↔ (bt (ar c) i = true ∧ bt b i = false ∧ bt w i = false) := by
  rw [bt_fr, Bool.and_eq_true, Bool.and_eq_true, Bool.not_eq_true', Bool.not_eq_true']
/-- the answers' points -/
def isA (X H : Int64) (p i : Nat) : Prop := bt (fr (fl (pt p) X) X H) i = true ∨ ∃ j, bt (ar (fl (pt p) X)) j = true ∧ bt H j = true ∧ cnt (fr (fl (pt j) H) X H) = 1 ∧ bt (fr (fl (pt j) H) X H) i = true
theorem isA_emp {X H : Int64} {p i : Nat} (h : isA X H p i) : i < 49 ∧ bt X i = false ∧ bt H i = false := by
  rcases h with h | ⟨j, -, -, -, h⟩
  · have := bt_fr_t.mp h; exact ⟨lt49 (inA_ar _) this.1, this.2⟩
  · have := bt_fr_t.mp h; exact ⟨lt49 (inA_ar _) this.1, this.2⟩
theorem fl_zero (H : Int64) (hH : inA H) : fl 0 H = 0 := by
  refine eq0_iff.mpr fun i => ?_
  cases hi : bt (fl 0 H) i
  · rfl
  · exact (fl_ind (s := 0) hH (fun _ => False) (fun j a _ => by rw [bt_0] at a; cases a) (fun _ _ q _ _ => q) i hi).elim
theorem and_pt {w : Int64} {k : Nat} (hk : k < 64) : w &&& pt k = if bt w k = true then pt k else 0 := by
  refine bt_ext fun i hi => ?_
  rw [bt_and]
  by_cases h : bt w k = true
  · rw [if_pos h, bt_pt hk]
    by_cases e : i = k
    · subst e; rw [h]; rfl
    · simp [e]
  · rw [if_neg h, bt_pt hk, bt_0]
    by_cases e : i = k
    · subst e; simp at h; rw [h]; rfl
    · simp [e]
theorem bt_del {w y : Int64} (i : Nat) : bt (w &&& (y ^^^ (-1))) i = true ↔ (bt w i = true ∧ ¬ bt y i = true) := by
  rw [bt_and, bt_not]
  by_cases h : i < 64
  · simp [h]
  · rw [bt_big (w := w) (by omega)]; simp
theorem answers_26 {X H : Int64} (hH : inA H) {T0 : Int64} (hT0 : sb T0 H) : ∀ (d n : Nat) (A T : Int64) (k : Nat), k + d = 49 → d < n → sb T T0 →
    (∀ j i, bt T0 j = true → cnt (fr (fl (pt j) H) X H) = 1 → bt (fr (fl (pt j) H) X H) i = true → bt A i = true ∨ (bt T j = true ∧ k ≤ j)) →
    ∃ R, fX5_answers_26 n H (X ||| H) A T (nI k) = some R ∧ (∀ i, bt A i = true → bt R i = true) ∧
      (∀ j i, bt T0 j = true → cnt (fr (fl (pt j) H) X H) = 1 → bt (fr (fl (pt j) H) X H) i = true → bt R i = true) ∧
      (∀ i, bt R i = true → bt A i = true ∨ ∃ j, bt T0 j = true ∧ cnt (fr (fl (pt j) H) X H) = 1 ∧ bt (fr (fl (pt j) H) X H) i = true) := by
  intro d
  have h49 : (49 : Int32) = nI 49 := by decide
  induction d with
  | zero =>
    intro n A T k hk hn hT hI
    obtain ⟨n, rfl⟩ : ∃ j, n = j + 1 := ⟨n - 1, by omega⟩
    rw [fX5_answers_26, h49, if_pos (nI_le (by omega) (by omega))]
    refine ⟨A, rfl, fun i h => h, fun j i a b c => ?_, fun i h => Or.inl h⟩
    rcases hI j i a b c with h | ⟨h1, h2⟩
    · exact h
    · have := lt49 hH (hT0 j (hT j h1)); omega
  | succ d ih =>
    intro n A T k hk hn hT hI
    obtain ⟨n, rfl⟩ : ∃ j, n = j + 1 := ⟨n - 1, by omega⟩
    rw [fX5_answers_26, h49, if_neg (nI_ge (by omega) (by omega)), pt_nI, (fl_X0 hH).1, Option.bind_some, lib_X0, Option.bind_some, bitCount_J, Option.bind_some, and_pt (by omega)]
    unfold fX5_answers_71
    rw [nI_1]
    have hsub : sb (T &&& (fl (if bt T k = true then pt k else 0) H ^^^ (-1))) T0 := sb_tr (and_sb_l _ _) hT
    by_cases hb : bt T k = true
    · rw [if_pos hb] at hsub ⊢
      have hkH := hT0 k (hT k hb)
      have hlast : ar (fl (pt k) H) &&& ((X ||| H) ^^^ (-1)) = fr (fl (pt k) H) X H := rfl
      rw [hlast]
      by_cases h1 : cnt (fr (fl (pt k) H) X H) = 1
      · rw [if_pos (by rw [h1]; rfl)]
        obtain ⟨R, r1, r2, r3, r4⟩ := ih n (A ||| fr (fl (pt k) H) X H) _ (k + 1) (by omega) (by omega) hsub (fun j i a b c => by
          rcases hI j i a b c with h | ⟨q1, q2⟩
          · left; rw [bt_or, h]; rfl
          · by_cases hj : bt (fl (pt k) H) j = true
            · left
              rw [← fl_same hH hkH hj, bt_or, c]; simp
            · right
              refine ⟨(bt_del j).mpr ⟨q1, hj⟩, ?_⟩
              rcases Nat.eq_or_lt_of_le q2 with e | e
              · subst e; exact absurd (fl_in hH hkH) hj
              · omega)
        refine ⟨R, r1, fun i h => r2 i (by rw [bt_or, h]; rfl), r3, fun i h => ?_⟩
        rcases r4 i h with q | q
        · rw [bt_or, Bool.or_eq_true] at q
          rcases q with q | q
          · exact Or.inl q
          · exact Or.inr ⟨k, hT k hb, h1, q⟩
        · exact Or.inr q
      · have hc64 := cnt_64 (fr (fl (pt k) H) X H)
        rw [if_neg (fun e => h1 ((nI_eq (by omega) (by omega)).mp (e.trans (show (1 : Int32) = nI 1 by decide))))]
        obtain ⟨R, r1, r2, r3, r4⟩ := ih n A _ (k + 1) (by omega) (by omega) hsub (fun j i a b c => by
          rcases hI j i a b c with h | ⟨q1, q2⟩
          · exact Or.inl h
          · by_cases hj : bt (fl (pt k) H) j = true
            · exact absurd (by rw [← fl_same hH hkH hj]; exact b) h1
            · right
              refine ⟨(bt_del j).mpr ⟨q1, hj⟩, ?_⟩
              rcases Nat.eq_or_lt_of_le q2 with e | e
              · subst e; exact absurd (fl_in hH hkH) hj
              · omega)
        exact ⟨R, r1, r2, r3, r4⟩
    · rw [if_neg hb] at hsub ⊢
      rw [fl_zero H hH, ar_0] at *
      have e0 : (0 : Int64) &&& ((X ||| H) ^^^ (-1)) = 0 := eq0_iff.mpr fun i => by rw [bt_and, bt_0]; rfl
      rw [e0, cnt_0, if_neg (by decide)]
      obtain ⟨R, r1, r2, r3, r4⟩ := ih n A (T &&& (0 ^^^ (-1))) (k + 1) (by omega) (by omega) hsub (fun j i a b c => by
        rcases hI j i a b c with h | ⟨q1, q2⟩
        · exact Or.inl h
        · right
          refine ⟨(bt_del j).mpr ⟨q1, by rw [bt_0]; decide⟩, ?_⟩
          rcases Nat.eq_or_lt_of_le q2 with e | e
          · subst e; exact absurd q1 hb
          · omega)
      exact ⟨R, r1, r2, r3, r4⟩
theorem answers_X5 {X H : Int64} (hD : DJ X H) {p : Nat} : ∃ R, fX5_answers X H (fl (pt p) X) = some R ∧ ∀ i, bt R i = true ↔ isA X H p i := by
  obtain ⟨R, r1, r2, r3, r4⟩ := answers_26 (X := X) hD.2.1 (T0 := ar (fl (pt p) X) &&& H) (and_sb_r _ _) 49 FU (fr (fl (pt p) X) X H) (ar (fl (pt p) X) &&& H) 0 (by omega) (by unfold FU; omega) (sb_rf _) (fun j i a _ _ => Or.inr ⟨a, Nat.zero_le _⟩)
  refine ⟨R, ?_, fun i => ⟨fun h => ?_, fun h => ?_⟩⟩
  · unfold fX5_answers
    rw [lib_X0, Option.bind_some, ar_X0, Option.bind_some]
    exact r1
  · rcases r4 i h with q | ⟨j, a, b, c⟩
    · exact Or.inl q
    · rw [bt_and, Bool.and_eq_true] at a
      exact Or.inr ⟨j, a.1, a.2, b, c⟩
  · rcases h with q | ⟨j, a, a2, b, c⟩
    · exact r2 i q
    · exact r3 j i (by rw [bt_and, a, a2]; rfl) b c
def answ (X H : Int64) (p : Nat) : Int64 := (fX5_answers X H (fl (pt p) X)).getD 0
theorem answ_X5 {X H : Int64} (hD : DJ X H) {p : Nat} : fX5_answers X H (fl (pt p) X) = some (answ X H p) ∧ ∀ i, bt (answ X H p) i = true ↔ isA X H p i := by
  obtain ⟨R, r1, r2⟩ := answers_X5 hD (p := p)
  have e : answ X H p = R := by unfold answ; rw [r1]; rfl
  rw [e]; exact ⟨r1, r2⟩
/-- the reference finds the same -/
theorem replies_40 {b w X H : Int64} (hbw : ∀ c, fr c b w = fr c X H) (hH : inA H) {T0 : Int64} (hT0 : sb T0 H) : ∀ (n : Nat) (A T : Int64), cnt T < n → sb T T0 →
    (∀ j i, bt T0 j = true → cnt (fr (fl (pt j) H) X H) = 1 → bt (fr (fl (pt j) H) X H) i = true → bt A i = true ∨ bt T j = true) →
    ∃ R, fX9_replies_40 n b w H A T = some R ∧ (∀ i, bt A i = true → bt R i = true) ∧
      (∀ j i, bt T0 j = true → cnt (fr (fl (pt j) H) X H) = 1 → bt (fr (fl (pt j) H) X H) i = true → bt R i = true) ∧
      (∀ i, bt R i = true → bt A i = true ∨ ∃ j, bt T0 j = true ∧ cnt (fr (fl (pt j) H) X H) = 1 ∧ bt (fr (fl (pt j) H) X H) i = true) := by
  intro n
  induction n with
  | zero => intro A T h; omega
  | succ n ih =>
    intro A T hn hT hI
    rw [fX9_replies_40]
    by_cases h0 : T = 0
    · rw [if_pos h0]
      refine ⟨A, rfl, fun i h => h, fun j i a b c => ?_, fun i h => Or.inl h⟩
      rcases hI j i a b c with h | h1
      · exact h
      · rw [h0, bt_0] at h1; cases h1
    · rw [if_neg h0]
      obtain ⟨k, hk, h1, h2, h3⟩ := low_ex h0
      have hkH := hT0 k (hT k h1)
      rw [low_1 hk h1 h2 h3, fl_X9 hH, Option.bind_some, free_X9, Option.bind_some, bits_X9, Option.bind_some, hbw]
      unfold fX9_replies_97
      have hcn : cnt (T &&& (fl (pt k) H ^^^ (-1))) < cnt T := cnt_lt (and_sb_l _ _) (fun e => by
        have h9 : bt (T &&& (fl (pt k) H ^^^ (-1))) k = true := by rw [e]; exact h1
        exact ((bt_del k).mp h9).2 (fl_in hH hkH))
      have hsub : sb (T &&& (fl (pt k) H ^^^ (-1))) T0 := sb_tr (and_sb_l _ _) hT
      by_cases hc1 : cnt (fr (fl (pt k) H) X H) = 1
      · rw [if_pos (by rw [hc1]; rfl)]
        obtain ⟨R, r1, r2, r3, r4⟩ := ih (A ||| fr (fl (pt k) H) X H) _ (by omega) hsub (fun j i a b c => by
          rcases hI j i a b c with h | q1
          · left; rw [bt_or, h]; rfl
          · by_cases hj : bt (fl (pt k) H) j = true
            · left
              rw [← fl_same hH hkH hj, bt_or, c]; simp
            · exact Or.inr ((bt_del j).mpr ⟨q1, hj⟩))
        refine ⟨R, r1, fun i h => r2 i (by rw [bt_or, h]; rfl), r3, fun i h => ?_⟩
        rcases r4 i h with q | q
        · rw [bt_or, Bool.or_eq_true] at q
          rcases q with q | q
          · exact Or.inl q
          · exact Or.inr ⟨k, hT k h1, hc1, q⟩
        · exact Or.inr q
      · have hc64 := cnt_64 (fr (fl (pt k) H) X H)
        rw [if_neg (fun e => hc1 ((nI_eq (by omega) (by omega)).mp (e.trans (show (1 : Int32) = nI 1 by decide))))]
        have eA : A ||| 0 = A := bt_ext fun i _ => by rw [bt_or, bt_0]; simp
        rw [eA]
        exact ih A _ (by omega) hsub (fun j i a b c => by
          rcases hI j i a b c with h | q1
          · exact Or.inl h
          · by_cases hj : bt (fl (pt k) H) j = true
            · exact absurd (by rw [← fl_same hH hkH hj]; exact b) hc1
            · exact Or.inr ((bt_del j).mpr ⟨q1, hj⟩))
/-- boards by the colour of the prey -/
def bwc (c : Int32) (X H : Int64) : BW := if c = 0 then (X, H) else (H, X)
theorem bwc_fr {c : Int32} {X H : Int64} (s : Int64) : fr s (bwc c X H).1 (bwc c X H).2 = fr s X H := by
  unfold bwc
  split
  · rfl
  · exact fr_comm _ _ _
theorem bwc_ok {c : Int32} {X H : Int64} (h : DJ X H) : OKB (bwc c X H) := by
  unfold bwc
  split
  · exact h
  · exact ⟨h.2.1, h.1, fun i a b => h.2.2 i b a⟩
theorem bwc_own {c : Int32} {X H : Int64} : ownOf (bwc c X H).1 (bwc c X H).2 c = X ∧ othOf (bwc c X H).1 (bwc c X H).2 c = H := by
  unfold bwc ownOf othOf
  by_cases h : c = 0
  · simp [h]
  · simp [h]
theorem bwc_hun {c : Int32} (h : c = 0 ∨ c = 1) {X H : Int64} : ownOf (bwc c X H).1 (bwc c X H).2 (1 - c) = H ∧ othOf (bwc c X H).1 (bwc c X H).2 (1 - c) = X := by
  rcases h with rfl | rfl <;> exact ⟨rfl, rfl⟩
/-- the chain at the spot: nothing if the prey isn't there and no hunter's stone either -/
theorem bwc_stn {c : Int32} {X H : Int64} (hD : DJ X H) {p : Nat} (hp : p < 64) (hH : bt H p = false) : fl (pt p) (stn (bwc c X H) p) = fl (pt p) X := by
  unfold stn bwc
  by_cases hc : c = 0
  · simp only [if_pos hc]
    by_cases hX : bt X p = true
    · rw [if_pos hX]
    · rw [if_neg hX, fl_none hD.2.1 hp hH, fl_none hD.1 hp (by simpa using hX)]
  · simp only [if_neg hc]
    rw [if_neg (by rw [hH]; decide)]
theorem lbc_bwc {c : Int32} {X H : Int64} (hD : DJ X H) {p : Nat} (hp : p < 64) (hH : bt H p = false) : lbc (bwc c X H) p = cnt (libs X H p) := by
  unfold lbc libs
  rw [bwc_stn hD hp hH, bwc_fr]
theorem replies_X9 {c : Int32} (hc : c = 0 ∨ c = 1) {X H : Int64} (hD : DJ X H) {p : Nat} (hp : p < 49) (hX : bt X p = true) : fX9_replies (bwc c X H).1 (bwc c X H).2 (nI p) c = some (answ X H p) := by
  have hH : bt H p = false := by
    cases q : bt H p
    · rfl
    · exact (hD.2.2 p hX q).elim
  have e := chainAt_X9 (bwc_ok (c := c) hD) hp
  unfold chn at e
  rw [bwc_stn hD (by omega) hH] at e
  obtain ⟨R, r1, r2, r3, r4⟩ := replies_40 (b := (bwc c X H).1) (w := (bwc c X H).2) (X := X) (fun s => bwc_fr s) hD.2.1 (T0 := ar (fl (pt p) X) &&& H) (and_sb_r _ _) FU (fr (fl (pt p) X) X H) (ar (fl (pt p) X) &&& H) (by have := cnt_64 (ar (fl (pt p) X) &&& H); unfold FU; omega) (sb_rf _) (fun j i a _ _ => Or.inr a)
  have hR : R = answ X H p := by
    refine sb_eq (fun i h => ?_) (fun i h => ?_)
    · rw [(answ_X5 hD).2]
      rcases r4 i h with q | ⟨j, a, b, d⟩
      · exact Or.inl q
      · rw [bt_and, Bool.and_eq_true] at a
        exact Or.inr ⟨j, a.1, a.2, b, d⟩
    · rcases ((answ_X5 hD).2 i).mp h with q | ⟨j, a, a2, b, d⟩
      · exact r2 i q
      · exact r3 j i (by rw [bt_and, a, a2]; rfl) b d
  unfold fX9_replies fX9_replies_19
  rw [e, Option.bind_some]
  have hfr := bwc_fr (c := c) (X := X) (H := H) (fl (pt p) X)
  rcases hc with rfl | rfl
  · rw [if_pos rfl, free_X9, Option.bind_some, ar_X9, Option.bind_some, hfr, ← hR]
    exact r1
  · rw [if_neg (by decide), free_X9, Option.bind_some, ar_X9, Option.bind_some, hfr, ← hR]
    exact r1
/-- what the tries and answers leave alone -/
def Pq (S S2 : MS) : Prop := (∀ k, k ≠ 27 → k ≠ 28 → m_i S2 k = m_i S k) ∧ m_I S2 = m_I S ∧ m_J S2 = m_J S
theorem Pq.rf {S : MS} : Pq S S := ⟨fun _ _ _ => rfl, rfl, rfl⟩
theorem Pq.tr {S S2 S3 : MS} (a : Pq S S2) (b : Pq S2 S3) : Pq S S3 := ⟨fun k h1 h2 => (b.1 k h1 h2).trans (a.1 k h1 h2), b.2.1.trans a.2.1, b.2.2.trans a.2.2⟩
theorem Pq.put {S : MS} {b w : Int64} {c : Int32} {p : Nat} : Pq S (putS S b w c p) := by
  refine ⟨fun k h1 h2 => ?_, rfl, rfl⟩
  unfold putS
  rw [mi_j, mi_j, mi_i, if_neg h2, mi_i, if_neg h1]
theorem allowed_7 {b w : Int64} {c : Int32} (hb : inA b) (hw : inA w) : ∀ (n : Nat) (S : MS) (out left : Int64), inA left → cnt left < n →
    ∃ R S2, fX9_allowed_7 n S b w c out left = some (R, S2) ∧ Pq S S2 ∧ ∀ i, bt R i = true ↔ (bt out i = true ∨ (bt left i = true ∧ sui (putO b w c i) (othOf b w c) i = false)) := by
  intro n
  induction n with
  | zero => intro S out left _ h; omega
  | succ n ih =>
    intro S out left hl hn
    rw [fX9_allowed_7]
    by_cases h0 : left = 0
    · rw [if_pos h0]
      refine ⟨out, S, rfl, Pq.rf, fun i => ?_⟩
      rw [h0, bt_0]; simp
    · rw [if_neg h0]
      obtain ⟨m, hm, h1, h2, h3⟩ := low_ex h0
      have hm9 := lt49 hl h1
      rw [lowest_X9 hm h1 h2 h3, Option.bind_some, puts_X9 S c hb hw hm9, Option.bind_some, (putS_new (x := (b, w)) hm9).2.1]
      have hdel : ∀ i, bt (left &&& (left - 1)) i = (bt left i && decide (i ≠ m)) := fun i => low_2 hm h1 h2 h3 i
      have hc := cnt_del hm h1 (b := left &&& (left - 1)) (fun i _ => hdel i)
      unfold fX9_allowed_49
      have hin : inA (left &&& (left - 1)) := inA_and_l hl
      cases hs : sui (putO b w c m) (othOf b w c) m
      · rw [if_pos bi0, bit_X9, Option.bind_some]
        obtain ⟨R, S2, r1, r2, r3⟩ := ih (putS S b w c m) (out ||| pt m) _ hin (by omega)
        refine ⟨R, S2, r1, Pq.put.tr r2, fun i => ?_⟩
        rw [r3 i, hdel, bt_or, bt_pt hm]
        by_cases e : i = m
        · subst e; simp [h1, hs]
        · simp [e]
      · rw [if_neg bi1]
        obtain ⟨R, S2, r1, r2, r3⟩ := ih (putS S b w c m) (out ||| 0) _ hin (by omega)
        refine ⟨R, S2, r1, Pq.put.tr r2, fun i => ?_⟩
        rw [r3 i, hdel, bt_or, bt_0]
        by_cases e : i = m
        · subst e; simp [hs]
        · simp [e]
theorem allowed_X9 {b w : Int64} {c : Int32} (hb : inA b) (hw : inA w) (S : MS) {A : Int64} (hA : inA A) :
    ∃ R S2, fX9_allowed S b w c A = some (R, S2) ∧ Pq S S2 ∧ ∀ i, bt R i = true ↔ (bt A i = true ∧ sui (putO b w c i) (othOf b w c) i = false) := by
  obtain ⟨R, S2, r1, r2, r3⟩ := allowed_7 (c := c) hb hw FU S 0 A hA (by have := cnt_64 A; unfold FU; omega)
  refine ⟨R, S2, r1, r2, fun i => ?_⟩
  rw [r3 i, bt_0]; simp
/-! PURE 14: what can be caught, and the class's reading of it. -/
noncomputable def xb (P : Prop) : Bool := @decide P (Classical.propDecidable P)
theorem ff : ¬ (false = true) := by decide
theorem n10 : nI 1 = 1 := rfl
theorem n00 : nI 0 = 0 := rfl
theorem xb_i {P : Prop} : xb P = true ↔ P := @decide_eq_true_iff P (Classical.propDecidable P)
theorem xb_t {P : Prop} (h : P) : xb P = true := xb_i.mpr h
theorem xb_n {P : Prop} (h : ¬ P) : ¬ xb P = true := fun e => h (xb_i.mp e)
theorem xb_f {P : Prop} (h : ¬ P) : xb P = false := by
  cases q : xb P
  · rfl
  · exact absurd (xb_i.mp q) h
theorem xb_c {P Q : Prop} (h : P ↔ Q) : xb P = xb Q := by rw [propext h]
def okA (X H : Int64) (p a : Nat) : Bool := bt (answ X H p) a && !sui (X ||| pt a) H a
def AN (k : Int64 → Int64 → Bool) (X H : Int64) (p : Nat) : Bool :=
  if (List.range 49).any (okA X H p) = true then (List.range 49).all (fun a => !okA X H p a || k (X ||| pt a) (alv (X ||| pt a) H)) else k X H
def TR (k : Int64 → Int64 → Bool) (X H : Int64) (p m : Nat) (al : Int32) : Bool :=
  if sui (H ||| pt m) X m = true then false else
    if cnt (libs (alv (H ||| pt m) X) (H ||| pt m) p) = 1 ∨ (1 < cnt (libs (alv (H ||| pt m) X) (H ||| pt m) p) ∧ al ≠ 2) then AN k (alv (H ||| pt m) X) (H ||| pt m) p else false
def CG : Nat → Int64 → Int64 → Nat → Int32 → Bool
  | 0, _, _, _, _ => false
  | n + 1, X, H, p, al => if cnt (libs X H p) = 1 then true else if n = 0 ∨ al < nI (cnt (libs X H p)) then false else (List.range 49).any fun m => bt (tset al (libs X H p) X H) m && TR (fun a b => CG n a b p al) X H p m al
theorem libs_emp {X H : Int64} {p i : Nat} (h : bt (libs X H p) i = true) : i < 49 ∧ bt X i = false ∧ bt H i = false := by
  have := bt_fr_t.mp h; exact ⟨lt49 (inA_ar _) this.1, this.2⟩
theorem tset_emp {X H : Int64} {p i : Nat} {al : Int32} (h : bt (tset al (libs X H p) X H) i = true) : i < 49 ∧ bt X i = false ∧ bt H i = false := by
  unfold tset at h
  split at h
  · exact libs_emp h
  · rw [bt_or, Bool.or_eq_true] at h
    rcases h with h | h
    · exact libs_emp h
    · have := bt_fr_t.mp h; exact ⟨lt49 (inA_ar _) this.1, this.2⟩
/-- the hunter's stone on the only liberty of a chain is allowed -/
theorem last_ok {X H : Int64} (hD : DJ X H) {p m : Nat} (hp : p < 49) (h1 : libs X H p = pt m) (hm : m < 64) : sui (H ||| pt m) X m = false := by
  have hmL : bt (libs X H p) m = true := by rw [h1, bt_pt hm]; simp
  obtain ⟨hm9, hXm, hHm⟩ := libs_emp hmL
  have har := (bt_fr_t.mp hmL).1
  have hXp : bt X p = true := by
    cases q : bt X p
    · unfold libs at hmL
      rw [fl_none hD.1 (by omega) q, fr_0, bt_0] at hmL; cases hmL
    · rfl
  obtain ⟨j, hj, hn⟩ := (bt_ar (inA_fl hD.1) hm9).mp har
  have hjX := fl_sb hD.1 j hj
  have hHo : inA (H ||| pt m) := inA_or hD.2.1 (inA_pt hm9)
  have hfr : fr (fl (pt j) X) (H ||| pt m) X = 0 := by
    rw [fl_same hD.1 hXp hj]
    refine eq0_iff.mpr fun i => ?_
    cases q : bt (fr (fl (pt p) X) (H ||| pt m) X) i
    · rfl
    · obtain ⟨a1, a2, a3⟩ := bt_fr_t.mp q
      rw [bt_or, Bool.or_eq_false_iff] at a2
      have : bt (libs X H p) i = true := bt_fr_t.mpr ⟨a1, a3, a2.1⟩
      rw [h1, a2.2] at this; cases this
  have hja : bt (alv (H ||| pt m) X) j = false := by
    cases q : bt (alv (H ||| pt m) X) j
    · rfl
    · exact absurd hfr ((bt_alv hD.1 j).mp q).2
  have hjH : bt (H ||| pt m) j = false := by
    rw [bt_or, bt_pt hm, Bool.or_eq_false_iff]
    refine ⟨?_, ?_⟩
    · cases q : bt H j
      · rfl
      · exact (hD.2.2 j hjX q).elim
    · apply decide_eq_false; rintro rfl; rw [hjX] at hXm; cases hXm
  unfold sui
  apply decide_eq_false
  rw [ne0_iff]
  refine ⟨j, bt_fr_t.mpr ⟨?_, hjH, hja⟩⟩
  refine ar_of (inA_fl hHo) (lt49 hD.1 hjX) (fl_in hHo (p := m) ?_) (by rw [nb_sym]; exact hn)
  rw [bt_or, bt_pt hm]; simp
theorem cnt1 {w : Int64} (h : cnt w = 1) : ∃ m, m < 64 ∧ w = pt m := by
  have h0 : ¬ w = 0 := fun e => by rw [e, cnt_0] at h; cases h
  obtain ⟨m, hm, h1, h2, h3⟩ := low_ex h0
  have hc := cnt_del hm h1 (b := w &&& (w - 1)) (fun i _ => low_2 hm h1 h2 h3 i)
  refine ⟨m, hm, bt_ext fun i _ => ?_⟩
  rw [bt_pt hm]
  by_cases e : i = m
  · subst e; rw [h1]; simp
  · have hz : w &&& (w - 1) = 0 := Classical.byContradiction fun hz => by have := cnt_pos hz; omega
    have := eq0_iff.mp hz i
    rw [low_2 hm h1 h2 h3] at this
    simp [e] at this
    rw [this]; simp [e]
theorem DJ.try {X H : Int64} (h : DJ X H) {m : Nat} (hm : m < 49) (hX : bt X m = false) : DJ (alv (H ||| pt m) X) (H ||| pt m) := by
  refine ⟨inA_alv h.1, inA_or h.2.1 (inA_pt hm), fun i a b => ?_⟩
  have a2 := sb_alv h.1 i a
  rw [bt_or, Bool.or_eq_true, bt_pt (by omega)] at b
  rcases b with b | b
  · exact h.2.2 i a2 b
  · simp at b; subst b; rw [a2] at hX; cases hX
theorem DJ.ans {X H : Int64} (h : DJ X H) {a : Nat} (ha : a < 49) (hH : bt H a = false) : DJ (X ||| pt a) (alv (X ||| pt a) H) := by
  refine ⟨inA_or h.1 (inA_pt ha), inA_alv h.2.1, fun i q b => ?_⟩
  have a2 := sb_alv h.2.1 i b
  rw [bt_or, Bool.or_eq_true, bt_pt (by omega)] at q
  rcases q with q | q
  · exact h.2.2 i q a2
  · simp at q; subst q; rw [a2] at hH; cases hH
theorem left_emp {own oth : Int64} {p : Nat} (hp : p < 49) (h1 : inA own) (h2 : inA oth) (e1 : bt own p = false) (e2 : bt oth p = false) : fX0_leftBehind own oth (pt p) = some (if sui (own ||| pt p) oth p = true then -1 else alv (own ||| pt p) oth) := by
  rw [left_X0 hp h1 h2, if_pos ((or_pt0 (x := (own, oth)) (by omega)).mpr ⟨e1, e2⟩)]
theorem rng_any {f : Nat → Bool} : (List.range 49).any f = true ↔ ∃ a, a < 49 ∧ f a = true := by
  rw [List.any_eq_true]
  constructor
  · rintro ⟨a, h1, h2⟩; exact ⟨a, List.mem_range.mp h1, h2⟩
  · rintro ⟨a, h1, h2⟩; exact ⟨a, List.mem_range.mpr h1, h2⟩
theorem rng_all {f : Nat → Bool} : (List.range 49).all f = true ↔ ∀ a, a < 49 → f a = true := by
  rw [List.all_eq_true]
  constructor
  · intro h a ha; exact h a (List.mem_range.mpr ha)
  · intro h a ha; exact h a (List.mem_range.mp ha)
theorem each_19 {kr : Int64 → Int64 → Int64 → Int32 → Int32 → Option Bool} {k : Int64 → Int64 → Bool} {X H : Int64} {p : Nat} {n al : Int32} (hD : DJ X H)
    (hk : ∀ a b, DJ a b → kr a b (pt p) n al = some (k a b)) : ∀ (d fu i : Nat) (f : Bool), i + d = 49 → d < fu →
    fX5_caughtForEachAnswer_19 kr fu X H (pt p) n al (answ X H p) (bi f) (nI i) = some (if xb (∃ a, i ≤ a ∧ a < 49 ∧ okA X H p a = true ∧ k (X ||| pt a) (alv (X ||| pt a) H) = false) = true then false else if xb (f = true ∨ ∃ a, i ≤ a ∧ a < 49 ∧ okA X H p a = true) = true then true else k X H) := by
  intro d
  have h49 : (49 : Int32) = nI 49 := by decide
  induction d with
  | zero =>
    intro fu i f hi hf
    obtain ⟨fu, rfl⟩ : ∃ j, fu = j + 1 := ⟨fu - 1, by omega⟩
    rw [fX5_caughtForEachAnswer_19, h49, if_pos (nI_le (by omega) (by omega)), if_neg (xb_n (fun ⟨a, h1, h2, _⟩ => by omega))]
    cases f with
    | true => rw [if_neg bi1, if_pos (xb_t (Or.inl rfl))]
    | false =>
      rw [if_pos bi0, hk X H hD, Option.bind_some, if_neg (xb_n (fun z => z.elim (by simp) (fun ⟨a, h1, h2, _⟩ => by omega)))]
      cases k X H <;> rfl
  | succ d ih =>
    intro fu i f hi hf
    obtain ⟨fu, rfl⟩ : ∃ j, fu = j + 1 := ⟨fu - 1, by omega⟩
    have hi49 : i < 49 := by omega
    rw [fX5_caughtForEachAnswer_19, h49, if_neg (nI_ge (by omega) (by omega)), pt_nI, and_pt (by omega)]
    -- an answer that isn't allowed, or none
    have skip : okA X H p i = false → (if xb (∃ a, i + 1 ≤ a ∧ a < 49 ∧ okA X H p a = true ∧ k (X ||| pt a) (alv (X ||| pt a) H) = false) = true then false else if xb (f = true ∨ ∃ a, i + 1 ≤ a ∧ a < 49 ∧ okA X H p a = true) = true then true else k X H) = (if xb (∃ a, i ≤ a ∧ a < 49 ∧ okA X H p a = true ∧ k (X ||| pt a) (alv (X ||| pt a) H) = false) = true then false else if xb (f = true ∨ ∃ a, i ≤ a ∧ a < 49 ∧ okA X H p a = true) = true then true else k X H) := by
      intro hno
      have ge : ∀ a, i ≤ a → okA X H p a = true → i + 1 ≤ a := fun a h1 h2 => by
        rcases Nat.eq_or_lt_of_le h1 with e | e
        · subst e; rw [hno] at h2; cases h2
        · omega
      have e1 : (∃ a, i + 1 ≤ a ∧ a < 49 ∧ okA X H p a = true ∧ k (X ||| pt a) (alv (X ||| pt a) H) = false) ↔ (∃ a, i ≤ a ∧ a < 49 ∧ okA X H p a = true ∧ k (X ||| pt a) (alv (X ||| pt a) H) = false) :=
        ⟨fun ⟨a, h1, h2⟩ => ⟨a, by omega, h2⟩, fun ⟨a, h1, h2, h3, h4⟩ => ⟨a, ge a h1 h3, h2, h3, h4⟩⟩
      have e2 : (∃ a, i + 1 ≤ a ∧ a < 49 ∧ okA X H p a = true) ↔ (∃ a, i ≤ a ∧ a < 49 ∧ okA X H p a = true) :=
        ⟨fun ⟨a, h1, h2⟩ => ⟨a, by omega, h2⟩, fun ⟨a, h1, h2, h3⟩ => ⟨a, ge a h1 h3, h2, h3⟩⟩
      simp only [e1, e2]
    by_cases hb : bt (answ X H p) i = true
    · have hemp := isA_emp (((answ_X5 hD).2 i).mp hb)
      have hpt : ¬ pt i = 0 := fun e => by have := eq0_iff.mp e i; rw [bt_pt (by omega)] at this; simp at this
      rw [if_pos hb, if_neg hpt, left_emp hi49 hD.1 hD.2.1 hemp.2.1 hemp.2.2, Option.bind_some]
      unfold fX5_caughtForEachAnswer_55 fX5_caughtForEachAnswer_89
      rw [nI_1]
      cases hs : sui (X ||| pt i) H i
      · have hok : okA X H p i = true := by unfold okA; rw [hb, hs]; rfl
        rw [if_neg ff, if_neg (inA_n1 (inA_alv hD.2.1)), hk _ _ (hD.ans hi49 hemp.2.2), Option.bind_some]
        cases hkk : k (X ||| pt i) (alv (X ||| pt i) H)
        · rw [if_pos rfl, if_pos (xb_t ⟨i, Nat.le_refl _, hi49, hok, hkk⟩)]
        · rw [if_neg (by decide)]
          have := ih fu (i + 1) true (by omega) (by omega)
          rw [show (1 : Int32) = bi true from rfl, this]
          have e1 : (∃ a, i + 1 ≤ a ∧ a < 49 ∧ okA X H p a = true ∧ k (X ||| pt a) (alv (X ||| pt a) H) = false) ↔ (∃ a, i ≤ a ∧ a < 49 ∧ okA X H p a = true ∧ k (X ||| pt a) (alv (X ||| pt a) H) = false) :=
            ⟨fun ⟨a, h1, h2⟩ => ⟨a, by omega, h2⟩, fun ⟨a, h1, h2, h3, h4⟩ => ⟨a, by
              rcases Nat.eq_or_lt_of_le h1 with e | e
              · subst e; rw [hkk] at h4; cases h4
              · omega, h2, h3, h4⟩⟩
          simp only [e1]
          rw [if_pos (xb_t (Or.inl trivial : True ∨ _)), if_pos (xb_t (Or.inr ⟨i, Nat.le_refl _, hi49, hok⟩ : f = true ∨ _))]
      · have hno : okA X H p i = false := by unfold okA; rw [hb, hs]; rfl
        rw [if_pos rfl, if_pos rfl, ih fu (i + 1) f (by omega) (by omega), skip hno]
    · have hno : okA X H p i = false := by unfold okA; simp at hb; rw [hb]; rfl
      rw [if_neg hb, if_pos rfl]
      unfold fX5_caughtForEachAnswer_55 fX5_caughtForEachAnswer_89
      rw [nI_1, if_pos rfl, ih fu (i + 1) f (by omega) (by omega), skip hno]
theorem each_X5 {kr : Int64 → Int64 → Int64 → Int32 → Int32 → Option Bool} {k : Int64 → Int64 → Bool} {X H : Int64} {p : Nat} {n al : Int32} (hD : DJ X H)
    (hk : ∀ a b, DJ a b → kr a b (pt p) n al = some (k a b)) : fX5_caughtForEachAnswer kr X H (pt p) n al = some (AN k X H p) := by
  unfold fX5_caughtForEachAnswer
  rw [(fl_X0 hD.1).1, Option.bind_some, (answ_X5 hD).1, Option.bind_some]
  have := each_19 hD hk 49 FU 0 false (by omega) (by unfold FU; omega)
  rw [show (0 : Int32) = bi false from rfl, show (bi false : Int32) = nI 0 from rfl] at *
  rw [this]
  congr 1
  unfold AN
  by_cases hany : (List.range 49).any (okA X H p) = true
  · rw [if_pos hany]
    obtain ⟨a, h1, h2⟩ := rng_any.mp hany
    by_cases hbad : ∃ a, 0 ≤ a ∧ a < 49 ∧ okA X H p a = true ∧ k (X ||| pt a) (alv (X ||| pt a) H) = false
    · rw [if_pos (xb_t hbad)]
      obtain ⟨z, -, z1, z2, z3⟩ := hbad
      cases q : (List.range 49).all (fun a => !okA X H p a || k (X ||| pt a) (alv (X ||| pt a) H))
      · rfl
      · have := rng_all.mp q z z1
        rw [z2, z3] at this; cases this
    · rw [if_neg (xb_n hbad), if_pos (xb_t (Or.inr ⟨a, Nat.zero_le _, h1, h2⟩))]
      symm
      refine rng_all.mpr fun z hz => ?_
      cases q1 : okA X H p z
      · rfl
      · cases q2 : k (X ||| pt z) (alv (X ||| pt z) H)
        · exact absurd ⟨z, Nat.zero_le _, hz, q1, q2⟩ hbad
        · rfl
  · rw [if_neg hany, if_neg (xb_n (fun ⟨a, _, h1, h2, _⟩ => hany (rng_any.mpr ⟨a, h1, h2⟩))), if_neg (xb_n (fun z => z.elim (by simp) (fun ⟨a, _, h1, h2⟩ => hany (rng_any.mpr ⟨a, h1, h2⟩))))]
theorem catches_X5 {kr : Int64 → Int64 → Int64 → Int32 → Int32 → Option Bool} {k : Int64 → Int64 → Bool} {X H : Int64} {p m : Nat} {n : Nat} {al : Int32} (hD : DJ X H) (hp : p < 49) (hm : m < 49) (e1 : bt X m = false) (e2 : bt H m = false)
    (hk : ∀ a b, DJ a b → kr a b (pt p) (nI n) al = some (k a b)) : fX5_catches kr X H (pt p) (pt m) (nI (n + 1)) al = some (TR k X H p m al) := by
  have i1 : (1 : Int32) = nI 1 := by decide
  unfold fX5_catches TR
  rw [left_emp hm hD.2.1 hD.1 e2 e1, Option.bind_some]
  cases hs : sui (H ||| pt m) X m
  · have hDt := hD.try hm e1
    rw [if_neg ff, if_neg (inA_n1 (inA_alv hD.1)), if_neg ff]
    have hAN : fX5_catches_76 kr (pt p) (nI (n + 1)) al (alv (H ||| pt m) X) (H ||| pt m) = some (AN k (alv (H ||| pt m) X) (H ||| pt m) p) := by
      unfold fX5_catches_76
      rw [nI_pred, each_X5 hDt hk]; rfl
    by_cases h0 : alv (H ||| pt m) X &&& pt p = 0
    · have hz : libs (alv (H ||| pt m) X) (H ||| pt m) p = 0 := by
        unfold libs
        rw [fl_none hDt.1 (by omega) ((and_pt0 (by omega)).mp h0), fr_0]
      rw [if_pos h0, hz, cnt_0, if_neg (by omega)]
    · have hfr : (ar (fl (pt p) (alv (H ||| pt m) X)) &&& ((alv (H ||| pt m) X ||| (H ||| pt m)) ^^^ (-1))) = libs (alv (H ||| pt m) X) (H ||| pt m) p := rfl
      rw [if_neg h0, (fl_X0 hDt.1).1, Option.bind_some, lib_X0, Option.bind_some, bitCount_J, Option.bind_some, hfr, hAN]
      have h64 := cnt_64 (libs (alv (H ||| pt m) X) (H ||| pt m) p)
      generalize cnt (libs (alv (H ||| pt m) X) (H ||| pt m) p) = c at h64 ⊢
      by_cases hc0 : c = 0
      · subst hc0
        rw [if_pos (by decide), if_neg (by omega)]
      · rw [i1, if_neg (nI_nlt (by omega) (by omega))]
        by_cases hal : al = 2
        · rw [if_pos hal]
          by_cases hc1 : c = 1
          · subst hc1; rw [if_pos rfl, if_pos (Or.inl rfl)]
          · rw [if_neg (fun e => hc1 ((nI_eq (by omega) (by omega)).mp e)), if_neg (fun z => z.elim hc1 (fun z => z.2 hal))]
        · rw [if_neg hal, if_pos]
          by_cases hc1 : c = 1
          · exact Or.inl hc1
          · exact Or.inr ⟨by omega, hal⟩
  · rw [if_pos rfl, if_pos rfl, if_pos rfl]
theorem caught_103 {kr : Int64 → Int64 → Int64 → Int32 → Int32 → Option Bool} {k : Int64 → Int64 → Bool} {X H : Int64} {p n : Nat} {al : Int32} {T : Int64} (hD : DJ X H) (hp : p < 49) (hT : ∀ i, bt T i = true → i < 49 ∧ bt X i = false ∧ bt H i = false)
    (hk : ∀ a b, DJ a b → kr a b (pt p) (nI n) al = some (k a b)) : ∀ (d fu i : Nat), i + d = 49 → d < fu →
    fX5_caught_103 kr fu X H (pt p) (nI (n + 1)) al T (nI i) = some (xb (∃ m, i ≤ m ∧ m < 49 ∧ bt T m = true ∧ TR k X H p m al = true)) := by
  intro d
  have h49 : (49 : Int32) = nI 49 := by decide
  induction d with
  | zero =>
    intro fu i hi hf
    obtain ⟨fu, rfl⟩ : ∃ j, fu = j + 1 := ⟨fu - 1, by omega⟩
    rw [fX5_caught_103, h49, if_pos (nI_le (by omega) (by omega)), xb_f (fun ⟨a, h1, h2, _⟩ => by omega)]
  | succ d ih =>
    intro fu i hi hf
    obtain ⟨fu, rfl⟩ : ∃ j, fu = j + 1 := ⟨fu - 1, by omega⟩
    rw [fX5_caught_103, h49, if_neg (nI_ge (by omega) (by omega)), pt_nI, and_pt (by omega)]
    unfold fX5_caught_144
    rw [nI_1, ih fu (i + 1) (by omega) (by omega)]
    have skip : ¬ (bt T i = true ∧ TR k X H p i al = true) → xb (∃ m, i + 1 ≤ m ∧ m < 49 ∧ bt T m = true ∧ TR k X H p m al = true) = xb (∃ m, i ≤ m ∧ m < 49 ∧ bt T m = true ∧ TR k X H p m al = true) := by
      intro hno
      apply xb_c
      exact ⟨fun ⟨a, h1, h2⟩ => ⟨a, by omega, h2⟩, fun ⟨a, h1, h2, h3, h4⟩ => ⟨a, by
        rcases Nat.eq_or_lt_of_le h1 with e | e
        · subst e; exact absurd ⟨h3, h4⟩ hno
        · omega, h2, h3, h4⟩⟩
    by_cases hb : bt T i = true
    · have hpt : ¬ pt i = 0 := fun e => by have := eq0_iff.mp e i; rw [bt_pt (by omega)] at this; simp at this
      obtain ⟨-, a1, a2⟩ := hT i hb
      rw [if_pos hb, if_neg hpt, catches_X5 hD hp (by omega) a1 a2 hk, Option.bind_some]
      cases ht : TR k X H p i al
      · rw [if_pos rfl, skip (fun z => by rw [ht] at z; cases z.2)]
      · rw [if_neg (by decide), xb_t ⟨i, Nat.le_refl _, by omega, hb, ht⟩]
    · rw [if_neg hb, if_pos rfl, skip (fun z => hb z.1)]
theorem rec_X5 {p : Nat} (hp : p < 49) {al : Int32} : ∀ (n d : Nat) (X H : Int64), n < 8 → n < d → DJ X H → fX5_rec d X H (pt p) (nI (n + 1)) al = some (CG (n + 1) X H p al) := by
  intro n
  have i1 : (1 : Int32) = nI 1 := by decide
  have i2 : (2 : Int32) = nI 2 := by decide
  have i8 : (8 : Int32) = nI 8 := by decide
  induction n with
  | zero =>
    intro d X H _ hd hD
    obtain ⟨d, rfl⟩ : ∃ j, d = j + 1 := ⟨d - 1, by omega⟩
    rw [fX5_rec, CG]
    unfold fX5_caught
    have hfr : (ar (fl (pt p) X) &&& ((X ||| H) ^^^ (-1))) = libs X H p := rfl
    rw [i1, if_neg (nI_nlt (by omega) (by omega)), i8, if_pos (nI_le (by omega) (by omega)), (fl_X0 hD.1).1, Option.bind_some, lib_X0, Option.bind_some, bitCount_J, Option.bind_some, hfr]
    have h62 : ∀ c, fX5_caught_62 (fX5_rec d) X H (pt p) (nI (0 + 1)) al (X ||| H) (libs X H p) c = some false := fun c => by
      unfold fX5_caught_62
      rw [i2, if_pos (nI_lt (by omega) (by omega))]
    have h64 := cnt_64 (libs X H p)
    by_cases hc : cnt (libs X H p) = 1
    · obtain ⟨m, hm, e⟩ := cnt1 hc
      have hL : bt (libs X H p) m = true := by rw [e, bt_pt hm]; simp
      obtain ⟨m9, mX, mH⟩ := libs_emp hL
      rw [if_pos hc, hc, if_pos rfl, e, left_emp m9 hD.2.1 hD.1 mH mX, last_ok hD hp e hm, Option.bind_some, if_neg ff, if_neg (inA_n1 (inA_alv hD.1))]
    · rw [if_neg hc, if_neg (fun e => hc ((nI_eq (by omega) (by omega)).mp e)), h62, if_pos (Or.inl rfl)]
  | succ n ih =>
    intro d X H hn hd hD
    obtain ⟨d, rfl⟩ : ∃ j, d = j + 1 := ⟨d - 1, by omega⟩
    rw [fX5_rec, CG]
    unfold fX5_caught
    have hfr : (ar (fl (pt p) X) &&& ((X ||| H) ^^^ (-1))) = libs X H p := rfl
    rw [i1, if_neg (nI_nlt (by omega) (by omega)), i8, if_pos (nI_le (by omega) (by omega)), (fl_X0 hD.1).1, Option.bind_some, lib_X0, Option.bind_some, bitCount_J, Option.bind_some, hfr]
    have h64 := cnt_64 (libs X H p)
    by_cases hc : cnt (libs X H p) = 1
    · obtain ⟨m, hm, e⟩ := cnt1 hc
      have hL : bt (libs X H p) m = true := by rw [e, bt_pt hm]; simp
      obtain ⟨m9, mX, mH⟩ := libs_emp hL
      rw [if_pos hc, hc, if_pos rfl, e, left_emp m9 hD.2.1 hD.1 mH mX, last_ok hD hp e hm, Option.bind_some, if_neg ff, if_neg (inA_n1 (inA_alv hD.1))]
    · rw [if_neg hc, if_neg (fun e => hc ((nI_eq (by omega) (by omega)).mp e))]
      unfold fX5_caught_62 fX5_caught_98
      rw [i2, if_neg (nI_nlt (by omega) (by omega)), ← i2]
      have go : ∀ T : Int64, T = tset al (libs X H p) X H → fX5_caught_103 (fX5_rec d) FU X H (pt p) (nI (n + 1 + 1)) al T (0 : Int32) = some ((List.range 49).any fun m => bt (tset al (libs X H p) X H) m && TR (fun a b => CG (n + 1) a b p al) X H p m al) := by
        intro T hT
        subst hT
        rw [show (0 : Int32) = nI 0 from rfl, caught_103 (k := fun a b => CG (n + 1) a b p al) hD hp (fun i h => tset_emp h) (fun a b hab => ih d a b (by omega) (by omega) hab) 49 FU 0 (by omega) (by unfold FU; omega)]
        congr 1
        rw [Bool.eq_iff_iff, xb_i, rng_any]
        constructor
        · rintro ⟨m, -, h1, h2, h3⟩; exact ⟨m, h1, by rw [h2, h3]; rfl⟩
        · rintro ⟨m, h1, h2⟩
          rw [Bool.and_eq_true] at h2
          exact ⟨m, Nat.zero_le _, h1, h2.1, h2.2⟩
      by_cases hle : nI (cnt (libs X H p)) ≤ al
      · have hno : ¬ (n + 1 = 0 ∨ al < nI (cnt (libs X H p))) := fun z => z.elim (by omega) (fun z => Int32.not_le.mpr z hle)
        rw [if_pos hle, if_neg hno]
        by_cases hal : al = 2
        · rw [if_pos hal]
          exact go _ (by unfold tset; rw [if_pos hal])
        · rw [if_neg hal, lib_X0, Option.bind_some]
          exact go _ (by unfold tset; rw [if_neg hal]; rfl)
      · rw [if_neg hle, if_pos (Or.inr (Int32.not_le.mp hle))]
/-! PURE 15: the reference's reading, down and up again. -/
abbrev RN (a5 a6 a7 a8 : Int32) (T : Nat) (S : MS) (d : Nat) (st : Int32) (S2 : MS) (d2 : Nat) (st2 : Int32) : Prop :=
  ∀ k, fX9_catches_39 (T + k) S a5 a6 a7 a8 (nI d) st = fX9_catches_39 k S2 a5 a6 a7 a8 (nI d2) st2
theorem RN.tr {a5 a6 a7 a8 : Int32} {T T2 : Nat} {S S2 S3 : MS} {d d2 d3 : Nat} {st st2 st3 : Int32} (A : RN a5 a6 a7 a8 T S d st S2 d2 st2) (B : RN a5 a6 a7 a8 T2 S2 d2 st2 S3 d3 st3) : RN a5 a6 a7 a8 (T + T2) S d st S3 d3 st3 := fun k => by rw [Nat.add_assoc, A, B]
theorem RN.one {a5 a6 a7 a8 : Int32} {S S2 : MS} {d d2 : Nat} {st st2 : Int32} (h : ∀ k, fX9_catches_39 (k + 1) S a5 a6 a7 a8 (nI d) st = fX9_catches_39 k S2 a5 a6 a7 a8 (nI d2) st2) : RN a5 a6 a7 a8 1 S d st S2 d2 st2 := fun k => by rw [Nat.add_comm 1 k]; exact h k
/-- rows above depth d stay -/
def Kd (d : Nat) (S S2 : MS) : Prop := (∀ k, k ≠ 27 → k ≠ 28 → m_i S2 k = m_i S k) ∧ (∀ a, a ≠ 27 → m_I S2 a = m_I S a) ∧ (∀ j, j < d → m_I S2 27 j = m_I S 27 j) ∧ (∀ a, a < 21 ∨ 26 < a → m_J S2 a = m_J S a) ∧ (∀ a j, j < d → m_J S2 a j = m_J S a j)
theorem Kd.rf {d : Nat} {S : MS} : Kd d S S := ⟨fun _ _ _ => rfl, fun _ _ => rfl, fun _ _ => rfl, fun _ _ => rfl, fun _ _ _ => rfl⟩
theorem Kd.tr {d : Nat} {S S2 S3 : MS} (A : Kd d S S2) (B : Kd d S2 S3) : Kd d S S3 := ⟨fun k p q => (B.1 k p q).trans (A.1 k p q), fun a h => (B.2.1 a h).trans (A.2.1 a h), fun j h => (B.2.2.1 j h).trans (A.2.2.1 j h), fun a h => (B.2.2.2.1 a h).trans (A.2.2.2.1 a h), fun a j h => (B.2.2.2.2 a j h).trans (A.2.2.2.2 a j h)⟩
theorem Kd.mono {d d2 : Nat} {S S2 : MS} (A : Kd d2 S S2) (h : d ≤ d2) : Kd d S S2 := ⟨A.1, A.2.1, fun j q => A.2.2.1 j (by omega), A.2.2.2.1, fun a j q => A.2.2.2.2 a j (by omega)⟩
theorem Kd.pq {d : Nat} {S S2 : MS} (A : Pq S S2) : Kd d S S2 := ⟨A.1, fun a _ => by rw [A.2.1], fun j _ => by rw [A.2.1], fun a _ => by rw [A.2.2], fun a j _ => by rw [A.2.2]⟩
theorem Kd.J {d a i : Nat} {S : MS} {v : Int64} (h : 21 ≤ a ∧ a ≤ 26) (hd : d ≤ i) : Kd d S (ms_J S a i v) := by
  refine ⟨fun _ _ _ => rfl, fun _ _ => rfl, fun _ _ => rfl, fun b hb => ?_, fun b j hj => ?_⟩
  · funext j; rw [mJ_J, if_neg (by omega)]
  · rw [mJ_J, if_neg (by omega)]
theorem Kd.I {d i : Nat} {S : MS} {v : Int32} (hd : d ≤ i) : Kd d S (ms_I S 27 i v) := by
  refine ⟨fun _ _ _ => rfl, fun b hb => ?_, fun j hj => ?_, fun _ _ => rfl, fun _ _ _ => rfl⟩
  · funext j; rw [mI_I, if_neg (by omega)]
  · rw [mI_I, if_neg (by omega)]
theorem Kd.j {d k : Nat} {S : MS} {v : Int64} : Kd d S (ms_j S k v) := ⟨fun _ _ _ => rfl, fun _ _ => rfl, fun _ _ => rfl, fun _ _ => rfl, fun _ _ _ => rfl⟩
theorem Kd.sq {d n : Nat} {S S2 : MS} (A : Kd d S S2) : Sq n S S2 := ⟨fun k a b _ => A.1 k a b, fun a _ _ h _ => A.2.1 a h, fun a _ => ⟨by rw [A.2.1 1 (by omega)], by rw [A.2.1 2 (by omega)]⟩, A.2.2.2.1⟩
theorem attacks_X9 {c : Int32} {X H : Int64} (hD : DJ X H) {p : Nat} (hp : p < 49) (hX : bt X p = true) (al : Int32) : fX9_attacks (bwc c X H).1 (bwc c X H).2 (nI p) al = some (if al < nI (cnt (libs X H p)) then 0 else tset al (libs X H p) X H) := by
  have hH : bt H p = false := by
    cases q : bt H p
    · rfl
    · exact (hD.2.2 p hX q).elim
  have e := chainAt_X9 (bwc_ok (c := c) hD) hp
  unfold chn at e
  rw [bwc_stn hD (by omega) hH] at e
  unfold fX9_attacks
  rw [e, Option.bind_some, free_X9, Option.bind_some, bwc_fr, bits_X9, Option.bind_some]
  have hl : fr (fl (pt p) X) X H = libs X H p := rfl
  rw [hl]
  by_cases h : nI (cnt (libs X H p)) ≤ al
  · rw [if_pos h, if_neg (Int32.not_lt.mpr h)]
    unfold tset
    by_cases h2 : al = 2
    · rw [if_pos h2, if_pos h2]
    · rw [if_neg h2, if_neg h2, ar_X9, Option.bind_some]
      have := bwc_fr (c := c) (X := X) (H := H) (libs X H p)
      rw [← this]; rfl
  · rw [if_neg h, if_pos (Int32.not_le.mp h)]
theorem bwc_put {c : Int32} (hc : c = 0 ∨ c = 1) {X H : Int64} {a : Nat} (ha : a < 49) : mvB (bwc c X H) c (nI a) = bwc c (X ||| pt a) (alv (X ||| pt a) H) ∧ putO (bwc c X H).1 (bwc c X H).2 c a = X ||| pt a ∧ othOf (bwc c X H).1 (bwc c X H).2 c = H := by
  have e1 : putO (bwc c X H).1 (bwc c X H).2 c a = X ||| pt a := by unfold putO; rw [bwc_own.1]
  have e2 : othOf (bwc c X H).1 (bwc c X H).2 c = H := bwc_own.2
  refine ⟨?_, e1, e2⟩
  rw [mvB_p ha]
  unfold putA
  rw [e1, e2]
  unfold bwc
  rcases hc with rfl | rfl
  · rfl
  · rfl
theorem bwc_hput {c : Int32} (hc : c = 0 ∨ c = 1) {X H : Int64} {m : Nat} (hm : m < 49) : mvB (bwc c X H) (1 - c) (nI m) = bwc c (alv (H ||| pt m) X) (H ||| pt m) ∧ putO (bwc c X H).1 (bwc c X H).2 (1 - c) m = H ||| pt m ∧ othOf (bwc c X H).1 (bwc c X H).2 (1 - c) = X := by
  have e1 : putO (bwc c X H).1 (bwc c X H).2 (1 - c) m = H ||| pt m := by unfold putO; rw [(bwc_hun hc).1]
  have e2 : othOf (bwc c X H).1 (bwc c X H).2 (1 - c) = X := (bwc_hun hc).2
  refine ⟨?_, e1, e2⟩
  rw [mvB_p hm]
  unfold putA
  rw [e1, e2]
  unfold bwc
  rcases hc with rfl | rfl
  · rfl
  · rfl
/-- one level: from its step 0 to its end -/
def MC (p M : Nat) (al c : Int32) (n B : Nat) : Prop := ∀ (S : MS) (d : Nat) (X H : Int64), d + n = M → DJ X H → bt X p = true → (m_J S 21 d, m_J S 22 d) = bwc c X H →
  ∃ T S2, T ≤ B ∧ RN (nI p) (nI M) al c T S d 0 S2 d (if CG n X H p al = true then 3 else 4) ∧ Kd d S S2
theorem pt_ne {k : Nat} (h : k < 64) : ¬ pt k = 0 := fun e => by have := eq0_iff.mp e k; rw [bt_pt h] at this; simp at this
/-- the answers, one after the other -/
theorem ans_loop {p M n B : Nat} {al c : Int32} (hc : c = 0 ∨ c = 1) (hp : p < 49) (hM : M ≤ 8) (hMC : MC p M al c n B) {X H : Int64} (hD : DJ X H) (hX : bt X p = true) : ∀ (z : Nat) (S : MS) (d : Nat) (A : Int64), cnt A = z → d + (n + 1) = M → (∀ a, bt A a = true → okA X H p a = true) →
    (m_J S 24 d, m_J S 25 d) = bwc c X H → m_J S 26 d = A → m_I S 27 d = 0 →
    ∃ T S2, T ≤ z * (B + 2) + 1 ∧ RN (nI p) (nI M) al c T S d 2 S2 d (if xb (∀ a, bt A a = true → CG n (X ||| pt a) (alv (X ||| pt a) H) p al = true) = true then 3 else 1) ∧ Kd d S S2 ∧ (∀ a, 21 ≤ a → a ≤ 23 → m_J S2 a d = m_J S a d) := by
  intro z
  induction z with
  | zero =>
    intro S d A hz hd hA hmid h26 h27
    have hA0 : A = 0 := Classical.byContradiction fun h => by have := cnt_pos h; omega
    refine ⟨1, S, by omega, RN.one fun k => ?_, Kd.rf, fun _ _ _ => rfl⟩
    have hx := xin_nI (k := d) (n := 10) (by omega) (by omega)
    have hcl := clp (k := d) (by omega)
    rw [fX9_catches_39, if_neg (by decide), if_neg (by decide), if_pos rfl, if_pos hx, hcl, h26, if_pos hA0, h27, if_pos rfl, if_pos (xb_t (fun a ha => by rw [hA0, bt_0] at ha; cases ha))]
    rfl
  | succ z ih =>
    intro S d A hz hd hA hmid h26 h27
    have h0 : ¬ A = 0 := fun e => by rw [e, cnt_0] at hz; omega
    obtain ⟨a, ha, h1, h2, h3⟩ := low_ex h0
    have hok := hA a h1
    have hemp : a < 49 ∧ bt X a = false ∧ bt H a = false := by
      unfold okA at hok
      rw [Bool.and_eq_true] at hok
      exact isA_emp (((answ_X5 hD).2 a).mp hok.1)
    have hx := xin_nI (k := d) (n := 10) (by omega) (by omega)
    have hx1 := xin_nI (k := d + 1) (n := 10) (by omega) (by omega)
    have hcl := clp (k := d) (by omega)
    have hcl1 := clp (k := d + 1) (by omega)
    have hdel : ∀ i, bt (A &&& (A - 1)) i = (bt A i && decide (i ≠ a)) := fun i => low_2 ha h1 h2 h3 i
    have hcn := cnt_del ha h1 (b := A &&& (A - 1)) (fun i _ => hdel i)
    have hbw : (m_J S 24 d) = (bwc c X H).1 ∧ (m_J S 25 d) = (bwc c X H).2 := ⟨congrArg Prod.fst hmid, congrArg Prod.snd hmid⟩
    have hob := bwc_ok (c := c) hD
    obtain ⟨Sn, hSn⟩ : ∃ Sn, Sn = ms_J (putS (ms_j (ms_j S 25 (bwc c X H).1) 26 (bwc c X H).2) (bwc c X H).1 (bwc c X H).2 c a) 26 d (A &&& (A - 1)) := ⟨_, rfl⟩
    have hnew := putS_new (S := ms_j (ms_j S 25 (bwc c X H).1) 26 (bwc c X H).2) (x := bwc c X H) (c := c) hemp.1
    have hput := bwc_put hc (X := X) (H := H) hemp.1
    rw [hput.1] at hnew
    have hj25 : m_j Sn 25 = (bwc c (X ||| pt a) (alv (X ||| pt a) H)).1 := by rw [hSn]; exact congrArg Prod.fst hnew.1
    have hj26 : m_j Sn 26 = (bwc c (X ||| pt a) (alv (X ||| pt a) H)).2 := by rw [hSn]; exact congrArg Prod.snd hnew.1
    obtain ⟨Sd, hSd⟩ : ∃ Sd, Sd = ms_J (ms_J (ms_I Sn 27 d 0) 21 (d + 1) (m_j Sn 25)) 22 (d + 1) (m_j Sn 26) := ⟨_, rfl⟩
    have hk1 : Kd d S Sn := by
      rw [hSn]
      exact ((Kd.j.tr Kd.j).tr (Kd.pq Pq.put)).tr (Kd.J (by omega) (Nat.le_refl _))
    have hk2 : Kd d Sn Sd := by
      rw [hSd]
      exact ((Kd.I (Nat.le_refl _)).tr (Kd.J (by omega) (by omega))).tr (Kd.J (by omega) (by omega))
    have step1 : RN (nI p) (nI M) al c 1 S d 2 Sd (d + 1) 0 := RN.one fun k => by
      rw [fX9_catches_39, if_neg (by decide), if_neg (by decide), if_pos rfl, if_pos hx, hcl, h26, if_neg h0]
      unfold fX9_catches_375 fX9_catches_456
      rw [if_pos hx, Option.bind_some, hcl]
      simp only [mJ_j, mI_j, h27, if_true, h26, hbw.1, hbw.2]
      rw [lowest_X9 ha h1 h2 h3, Option.bind_some, puts_X9 _ c hob.1 hob.2.1 hemp.1, Option.bind_some, Option.bind_some]
      have e26 : m_J (putS (ms_j (ms_j S 25 (bwc c X H).1) 26 (bwc c X H).2) (bwc c X H).1 (bwc c X H).2 c a) 26 d = A := by
        rw [Pq.put.2.2]; exact h26
      rw [e26, ← hSn, if_pos hx, nI_1, if_pos hx1, Option.bind_some, hcl1]
      simp only [mj_I, mj_J]
      rw [← hSd]
      rfl
    obtain ⟨T1, S1, hT1, r1, k1⟩ := hMC Sd (d + 1) (X ||| pt a) (alv (X ||| pt a) H) (by omega) (hD.ans hemp.1 hemp.2.2) (by rw [bt_or, hX]; rfl) (by
      rw [hSd]
      simp only [mJ_J, mJ_I, and_self, if_true, Nat.reduceEqDiff, false_and, if_false]
      rw [hj25, hj26])
    have hk3 : Kd d S S1 := (hk1.tr hk2).tr (k1.mono (by omega))
    have rows : ∀ b, 21 ≤ b → b ≤ 25 → m_J S1 b d = m_J S b d := fun b hb1 hb2 => by
      rw [k1.2.2.2.2 b d (by omega), hSd]
      simp only [mJ_J, mJ_I]
      rw [if_neg (by omega), if_neg (by omega), hSn, mJ_J, if_neg (by omega), Pq.put.2.2]
      rfl
    have row26 : m_J S1 26 d = A &&& (A - 1) := by
      rw [k1.2.2.2.2 26 d (by omega), hSd]
      simp only [mJ_J, mJ_I]
      rw [if_neg (by omega), if_neg (by omega), hSn, mJ_J, if_pos ⟨rfl, rfl⟩]
    have row27 : m_I S1 27 d = 0 := by
      rw [k1.2.2.1 d (by omega), hSd]
      simp only [mI_J, mI_I, and_self, if_true]
    have up : ∀ (q : Bool), RN (nI p) (nI M) al c 1 S1 (d + 1) (if q = true then 3 else 4) S1 d (if q = true then 2 else 1) := fun q => RN.one fun k => by
      have hne : ¬ nI (d + 1) = 0 := nI_ne0 (by omega) (by omega)
      cases q with
      | true =>
        rw [if_pos rfl, if_pos rfl, fX9_catches_39, if_neg (by decide), if_neg (by decide), if_neg (by decide), if_neg hne, if_pos rfl, pk_m1]
        rfl
      | false =>
        have f4 : (if false = true then (3 : Int32) else 4) = 4 := rfl
        have f1 : (if false = true then (2 : Int32) else 1) = 1 := rfl
        rw [f4, f1, fX9_catches_39, if_neg (by decide), if_neg (by decide), if_neg (by decide), if_neg hne, if_neg (by decide), pk_m1]
        rfl
    cases hq : CG n (X ||| pt a) (alv (X ||| pt a) H) p al
    · rw [hq] at r1
      refine ⟨1 + T1 + 1, S1, ?_, ?_, hk3, fun b hb1 hb2 => rows b hb1 (by omega)⟩
      · have : (z + 1) * (B + 2) = z * (B + 2) + (B + 2) := Nat.succ_mul _ _
        omega
      · rw [if_neg (xb_n (fun h => by have := h a h1; rw [hq] at this; cases this))]
        exact (step1.tr r1).tr (up false)
    · rw [hq] at r1
      obtain ⟨T2, S2, hT2, r2, k2, rw2⟩ := ih S1 d (A &&& (A - 1)) (by omega) hd (fun b hb => hA b (by rw [hdel, Bool.and_eq_true] at hb; exact hb.1)) (by rw [rows 24 (by omega) (by omega), rows 25 (by omega) (by omega)]; exact hmid) row26 row27
      refine ⟨1 + T1 + 1 + T2, S2, ?_, ?_, hk3.tr k2, fun b hb1 hb2 => (rw2 b hb1 hb2).trans (rows b hb1 (by omega))⟩
      · have : (z + 1) * (B + 2) = z * (B + 2) + (B + 2) := Nat.succ_mul _ _
        omega
      · have e : (∀ b, bt (A &&& (A - 1)) b = true → CG n (X ||| pt b) (alv (X ||| pt b) H) p al = true) ↔ (∀ b, bt A b = true → CG n (X ||| pt b) (alv (X ||| pt b) H) p al = true) := by
          constructor
          · intro h b hb
            by_cases e : b = a
            · subst e; exact hq
            · exact h b (by rw [hdel, hb]; simp [e])
          · intro h b hb
            rw [hdel, Bool.and_eq_true] at hb
            exact h b hb.1
        have r3 := ((step1.tr r1).tr (up true)).tr r2
        simp only [e] at r3
        exact r3
/-- no answer at all -/
theorem ans_pass {p M n B : Nat} {al c : Int32} (hc : c = 0 ∨ c = 1) (hp : p < 49) (hM : M ≤ 8) (hMC : MC p M al c n B) {X H : Int64} (hD : DJ X H) (hX : bt X p = true) (S : MS) (d : Nat) (hd : d + (n + 1) = M)
    (hmid : (m_J S 24 d, m_J S 25 d) = bwc c X H) (h26 : m_J S 26 d = 0) (h27 : m_I S 27 d = 1) :
    ∃ T S2, T ≤ B + 3 ∧ RN (nI p) (nI M) al c T S d 2 S2 d (if CG n X H p al = true then 3 else 1) ∧ Kd d S S2 ∧ (∀ a, 21 ≤ a → a ≤ 23 → m_J S2 a d = m_J S a d) := by
  have hx := xin_nI (k := d) (n := 10) (by omega) (by omega)
  have hx1 := xin_nI (k := d + 1) (n := 10) (by omega) (by omega)
  have hcl := clp (k := d) (by omega)
  have hcl1 := clp (k := d + 1) (by omega)
  have hbw : (m_J S 24 d) = (bwc c X H).1 ∧ (m_J S 25 d) = (bwc c X H).2 := ⟨congrArg Prod.fst hmid, congrArg Prod.snd hmid⟩
  obtain ⟨Sd, hSd⟩ : ∃ Sd, Sd = ms_J (ms_J (ms_I (ms_j (ms_j S 25 (bwc c X H).1) 26 (bwc c X H).2) 27 d 0) 21 (d + 1) (bwc c X H).1) 22 (d + 1) (bwc c X H).2 := ⟨_, rfl⟩
  have hk2 : Kd d S Sd := by
    rw [hSd]
    exact (((Kd.j.tr Kd.j).tr (Kd.I (Nat.le_refl _))).tr (Kd.J (by omega) (by omega))).tr (Kd.J (by omega) (by omega))
  have step1 : RN (nI p) (nI M) al c 1 S d 2 Sd (d + 1) 0 := RN.one fun k => by
    rw [fX9_catches_39, if_neg (by decide), if_neg (by decide), if_pos rfl, if_pos hx, hcl, h26, if_pos rfl, h27, if_neg (by decide)]
    unfold fX9_catches_375 fX9_catches_456
    rw [if_pos hx, Option.bind_some, hcl]
    simp only [mJ_j, mI_j, h27, hbw.1, hbw.2]
    rw [if_neg (by decide), nI_1, if_pos hx, if_pos hx1, Option.bind_some, hcl1]
    simp only [mj_I, mj_J, mj_j, if_true, Nat.reduceEqDiff, if_false]
    rw [← hSd]
    rfl
  obtain ⟨T1, S1, hT1, r1, k1⟩ := hMC Sd (d + 1) X H (by omega) hD hX (by
    rw [hSd]
    simp only [mJ_J, mJ_I, and_self, if_true, Nat.reduceEqDiff, false_and, if_false])
  have rows : ∀ b, 21 ≤ b → b ≤ 25 → m_J S1 b d = m_J S b d := fun b hb1 hb2 => by
    rw [k1.2.2.2.2 b d (by omega), hSd]
    simp only [mJ_J, mJ_I]
    rw [if_neg (by omega), if_neg (by omega)]
    rfl
  have up : ∀ (q : Bool), RN (nI p) (nI M) al c 1 S1 (d + 1) (if q = true then 3 else 4) S1 d (if q = true then 2 else 1) := fun q => RN.one fun k => by
    have hne : ¬ nI (d + 1) = 0 := nI_ne0 (by omega) (by omega)
    cases q with
    | true =>
      rw [if_pos rfl, if_pos rfl, fX9_catches_39, if_neg (by decide), if_neg (by decide), if_neg (by decide), if_neg hne, if_pos rfl, pk_m1]
      rfl
    | false =>
      have f4 : (if false = true then (3 : Int32) else 4) = 4 := rfl
      have f1 : (if false = true then (2 : Int32) else 1) = 1 := rfl
      rw [f4, f1, fX9_catches_39, if_neg (by decide), if_neg (by decide), if_neg (by decide), if_neg hne, if_neg (by decide), pk_m1]
      rfl
  have row26 : m_J S1 26 d = 0 := by
    rw [k1.2.2.2.2 26 d (by omega), hSd]
    simp only [mJ_J, mJ_I]
    rw [if_neg (by omega), if_neg (by omega)]
    exact h26
  have row27 : m_I S1 27 d = 0 := by
    rw [k1.2.2.1 d (by omega), hSd]
    simp only [mI_J, mI_I, and_self, if_true]
  have hk3 : Kd d S S1 := hk2.tr (k1.mono (by omega))
  cases hq : CG n X H p al
  · rw [hq] at r1
    refine ⟨1 + T1 + 1, S1, by omega, ?_, hk3, fun b hb1 hb2 => rows b hb1 (by omega)⟩
    exact (step1.tr r1).tr (up false)
  · rw [hq] at r1
    refine ⟨1 + T1 + 1 + 1, S1, by omega, ?_, hk3, fun b hb1 hb2 => rows b hb1 (by omega)⟩
    refine ((step1.tr r1).tr (up true)).tr (RN.one fun k => ?_)
    rw [if_pos rfl, if_pos rfl, fX9_catches_39, if_neg (by decide), if_neg (by decide), if_pos rfl, if_pos hx, hcl, row26, if_pos rfl, row27, if_pos rfl]
    rfl
/-- the tries, one after the other -/
theorem try_loop {p M n B : Nat} {al c : Int32} (hc : c = 0 ∨ c = 1) (hal : al = 2 ∨ al = 3) (hp : p < 49) (hM : M ≤ 8) (hMC : MC p M al c n B) {X H : Int64} (hD : DJ X H) (hX : bt X p = true) : ∀ (z : Nat) (S : MS) (d : Nat) (A : Int64), cnt A = z → d + (n + 1) = M → (∀ m, bt A m = true → m < 49 ∧ bt X m = false ∧ bt H m = false) →
    (m_J S 21 d, m_J S 22 d) = bwc c X H → m_J S 23 d = A →
    ∃ T S2, T ≤ z * (50 * (B + 2) + 4) + 1 ∧ RN (nI p) (nI M) al c T S d 1 S2 d (if xb (∃ m, bt A m = true ∧ TR (fun a b => CG n a b p al) X H p m al = true) = true then 3 else 4) ∧ Kd d S S2 := by
  intro z
  induction z with
  | zero =>
    intro S d A hz hd hA hway h23
    have hA0 : A = 0 := Classical.byContradiction fun h => by have := cnt_pos h; omega
    refine ⟨1, S, by omega, RN.one fun k => ?_, Kd.rf⟩
    have hx := xin_nI (k := d) (n := 10) (by omega) (by omega)
    have hcl := clp (k := d) (by omega)
    rw [fX9_catches_39, if_neg (by decide), if_pos rfl, if_pos hx, hcl, h23, if_pos hA0, if_neg (xb_n (fun ⟨m, h, _⟩ => by rw [hA0, bt_0] at h; cases h))]
    rfl
  | succ z ih =>
    intro S d A hz hd hA hway h23
    have h0 : ¬ A = 0 := fun e => by rw [e, cnt_0] at hz; omega
    obtain ⟨m, hm, h1, h2, h3⟩ := low_ex h0
    have hemp := hA m h1
    have hx := xin_nI (k := d) (n := 10) (by omega) (by omega)
    have hcl := clp (k := d) (by omega)
    have hdel : ∀ i, bt (A &&& (A - 1)) i = (bt A i && decide (i ≠ m)) := fun i => low_2 hm h1 h2 h3 i
    have hcn := cnt_del hm h1 (b := A &&& (A - 1)) (fun i _ => hdel i)
    have hA2 : ∀ i, bt (A &&& (A - 1)) i = true → i < 49 ∧ bt X i = false ∧ bt H i = false := fun i hi => by
      rw [hdel, Bool.and_eq_true] at hi; exact hA i hi.1
    have hbw : (m_J S 21 d) = (bwc c X H).1 ∧ (m_J S 22 d) = (bwc c X H).2 := ⟨congrArg Prod.fst hway, congrArg Prod.snd hway⟩
    have hob := bwc_ok (c := c) hD
    have hput := bwc_hput hc (X := X) (H := H) hemp.1
    obtain ⟨Sn, hSn⟩ : ∃ Sn, Sn = putS (ms_J S 23 d (A &&& (A - 1))) (bwc c X H).1 (bwc c X H).2 (1 - c) m := ⟨_, rfl⟩
    have hnew := putS_new (S := ms_J S 23 d (A &&& (A - 1))) (x := bwc c X H) (c := 1 - c) hemp.1
    rw [hput.1, hput.2.1, hput.2.2, ← hSn] at hnew
    have hk1 : Kd d S Sn := by rw [hSn]; exact (Kd.J (by omega) (Nat.le_refl _)).tr (Kd.pq Pq.put)
    have rowsn : ∀ b, b ≠ 23 → m_J Sn b d = m_J S b d := fun b hb => by
      rw [hSn, Pq.put.2.2, mJ_J, if_neg (fun e => hb e.1)]
    have row23 : m_J Sn 23 d = A &&& (A - 1) := by
      rw [hSn, Pq.put.2.2, mJ_J, if_pos ⟨rfl, rfl⟩]
    -- what the machine does up to the count of liberties
    have head : ∀ k, fX9_catches_39 (k + 1) S (nI p) (nI M) al c (nI d) 1 = (if sui (H ||| pt m) X m = true then fX9_catches_232 (fX9_catches_39 k) Sn (nI p) (nI M) al c (nI d) 1 0 else fX9_catches_232 (fX9_catches_39 k) Sn (nI p) (nI M) al c (nI d) 1 (nI (cnt (libs (alv (H ||| pt m) X) (H ||| pt m) p)))) := fun k => by
      rw [fX9_catches_39, if_neg (by decide), if_pos rfl, if_pos hx, hcl, h23, if_neg h0, lowest_X9 hm h1 h2 h3, Option.bind_some, Option.bind_some]
      have e21 : m_J (ms_J S 23 d (A &&& (A - 1))) 21 d = (bwc c X H).1 := by rw [mJ_J, if_neg (by omega)]; exact hbw.1
      have e22 : m_J (ms_J S 23 d (A &&& (A - 1))) 22 d = (bwc c X H).2 := by rw [mJ_J, if_neg (by omega)]; exact hbw.2
      rw [e21, e22, puts_X9 _ (1 - c) hob.1 hob.2.1 hemp.1, Option.bind_some, ← hSn, hnew.2.1]
      have hDt := hD.try hemp.1 hemp.2.1
      have hHp : bt (H ||| pt m) p = false := by
        rw [bt_or, bt_pt hm, Bool.or_eq_false_iff]
        refine ⟨?_, ?_⟩
        · cases q : bt H p
          · rfl
          · exact (hD.2.2 p hX q).elim
        · apply decide_eq_false; rintro rfl; rw [hX] at hemp; cases hemp.2.1
      have e25 : m_j Sn 25 = (bwc c (alv (H ||| pt m) X) (H ||| pt m)).1 := congrArg Prod.fst hnew.1
      have e26 : m_j Sn 26 = (bwc c (alv (H ||| pt m) X) (H ||| pt m)).2 := congrArg Prod.snd hnew.1
      cases hs : sui (H ||| pt m) X m
      · rw [if_pos bi0, e25, e26, libertiesAt_X9 (bwc_ok hDt) hp, Option.bind_some, lbc_bwc hDt (by omega) hHp, if_neg ff]
      · rw [if_neg bi1, if_pos rfl]
    -- a try that comes to nothing
    have miss : TR (fun a b => CG n a b p al) X H p m al = false → (∀ T S1, T ≤ 50 * (B + 2) + 4 → RN (nI p) (nI M) al c T S d 1 S1 d 1 → Kd d S S1 → (m_J S1 21 d, m_J S1 22 d) = bwc c X H → m_J S1 23 d = A &&& (A - 1) →
        ∃ T S2, T ≤ (z + 1) * (50 * (B + 2) + 4) + 1 ∧ RN (nI p) (nI M) al c T S d 1 S2 d (if xb (∃ m, bt A m = true ∧ TR (fun a b => CG n a b p al) X H p m al = true) = true then 3 else 4) ∧ Kd d S S2) := by
      intro hno T S1 hT r k w1 w2
      obtain ⟨T2, S2, hT2, r2, k2⟩ := ih S1 d (A &&& (A - 1)) (by omega) hd hA2 w1 w2
      refine ⟨T + T2, S2, ?_, ?_, k.tr k2⟩
      · have : (z + 1) * (50 * (B + 2) + 4) = z * (50 * (B + 2) + 4) + (50 * (B + 2) + 4) := Nat.succ_mul _ _
        omega
      · have e : (∃ i, bt (A &&& (A - 1)) i = true ∧ TR (fun a b => CG n a b p al) X H p i al = true) ↔ (∃ i, bt A i = true ∧ TR (fun a b => CG n a b p al) X H p i al = true) := by
          constructor
          · rintro ⟨i, a, b⟩
            rw [hdel, Bool.and_eq_true] at a
            exact ⟨i, a.1, b⟩
          · rintro ⟨i, a, b⟩
            refine ⟨i, ?_, b⟩
            rw [hdel, a]
            by_cases e : i = m
            · subst e; rw [hno] at b; cases b
            · simp [e]
        have r3 := r.tr r2
        simp only [e] at r3
        exact r3
    have hwn : (m_J Sn 21 d, m_J Sn 22 d) = bwc c X H := by rw [rowsn 21 (by omega), rowsn 22 (by omega)]; exact hway
    have idle : TR (fun a b => CG n a b p al) X H p m al = false → (∀ k, fX9_catches_39 (k + 1) S (nI p) (nI M) al c (nI d) 1 = fX9_catches_39 k Sn (nI p) (nI M) al c (nI d) 1) → ∃ T S2, T ≤ (z + 1) * (50 * (B + 2) + 4) + 1 ∧ RN (nI p) (nI M) al c T S d 1 S2 d (if xb (∃ m, bt A m = true ∧ TR (fun a b => CG n a b p al) X H p m al = true) = true then 3 else 4) ∧ Kd d S S2 :=
      fun hno h => miss hno 1 Sn (by omega) (RN.one h) hk1 hwn row23
    cases hs : sui (H ||| pt m) X m
    · have h64 := cnt_64 (libs (alv (H ||| pt m) X) (H ||| pt m) p)
      have hTR : TR (fun a b => CG n a b p al) X H p m al = (if cnt (libs (alv (H ||| pt m) X) (H ||| pt m) p) = 1 ∨ (1 < cnt (libs (alv (H ||| pt m) X) (H ||| pt m) p) ∧ al ≠ 2) then AN (fun a b => CG n a b p al) (alv (H ||| pt m) X) (H ||| pt m) p else false) := by
        unfold TR; rw [hs, if_neg (by decide)]
      by_cases hcond : cnt (libs (alv (H ||| pt m) X) (H ||| pt m) p) = 1 ∨ (1 < cnt (libs (alv (H ||| pt m) X) (H ||| pt m) p) ∧ al ≠ 2)
      · rw [if_pos hcond] at hTR
        have hDt := hD.try hemp.1 hemp.2.1
        have hXt : bt (alv (H ||| pt m) X) p = true := by
          cases q : bt (alv (H ||| pt m) X) p
          · have : libs (alv (H ||| pt m) X) (H ||| pt m) p = 0 := by unfold libs; rw [fl_none hDt.1 (by omega) q, fr_0]
            rw [this, cnt_0] at hcond; omega
          · rfl
        obtain ⟨Xa, hXa⟩ : ∃ Xa, Xa = alv (H ||| pt m) X := ⟨_, rfl⟩
        obtain ⟨Ho, hHo⟩ : ∃ Ho, Ho = H ||| pt m := ⟨_, rfl⟩
        have e25 : m_j Sn 25 = (bwc c Xa Ho).1 := by rw [hXa, hHo]; exact congrArg Prod.fst hnew.1
        have e26 : m_j Sn 26 = (bwc c Xa Ho).2 := by rw [hXa, hHo]; exact congrArg Prod.snd hnew.1
        rw [← hXa] at hXt
        rw [← hXa, ← hHo] at hDt hTR
        have hobt := bwc_ok (c := c) hDt
        obtain ⟨Sm, hSm⟩ : ∃ Sm, Sm = ms_J (ms_J Sn 24 d (m_j Sn 25)) 25 d (m_j Sn 26) := ⟨_, rfl⟩
        have hin : inA (answ Xa Ho p) := fun i hi => by
          cases q : bt (answ Xa Ho p) i
          · rfl
          · have := (isA_emp (((answ_X5 hDt).2 i).mp q)).1; omega
        obtain ⟨R, Sa, ra, rb, rc⟩ := allowed_X9 (c := c) hobt.1 hobt.2.1 Sm hin
        have hR : ∀ i, bt R i = true ↔ okA Xa Ho p i = true := fun i => by
          rw [rc i]
          unfold okA
          rw [Bool.and_eq_true, Bool.not_eq_true']
          constructor
          · rintro ⟨a, b⟩
            refine ⟨a, ?_⟩
            have i9 := (isA_emp (((answ_X5 hDt).2 i).mp a)).1
            rw [(bwc_put hc i9).2.1, (bwc_put hc i9).2.2] at b
            exact b
          · rintro ⟨a, b⟩
            refine ⟨a, ?_⟩
            have i9 := (isA_emp (((answ_X5 hDt).2 i).mp a)).1
            rw [(bwc_put hc i9).2.1, (bwc_put hc i9).2.2]
            exact b
        obtain ⟨St, hSt⟩ : ∃ St, St = ms_I (ms_J Sa 26 d R) 27 d (bi (decide (R = 0))) := ⟨_, rfl⟩
        have hk2 : Kd d Sn St := by
          rw [hSt]
          refine ((?_ : Kd d Sn Sm).tr (Kd.pq rb)).tr ((Kd.J (by omega) (Nat.le_refl _)).tr (Kd.I (Nat.le_refl _)))
          rw [hSm]
          exact (Kd.J (by omega) (Nat.le_refl _)).tr (Kd.J (by omega) (Nat.le_refl _))
        have m252 : ∀ k, fX9_catches_252 (fX9_catches_39 k) Sn (nI p) (nI M) al c (nI d) = fX9_catches_39 k St (nI p) (nI M) al c (nI d) 2 := fun k => by
          unfold fX9_catches_252 fX9_catches_334
          rw [if_pos hx, Option.bind_some, hcl]
          simp only [mj_J]
          rw [← hSm]
          have f25 : m_j Sm 25 = (bwc c Xa Ho).1 := by rw [hSm]; exact e25
          have f26 : m_j Sm 26 = (bwc c Xa Ho).2 := by rw [hSm]; exact e26
          rw [e25, e26, replies_X9 hc hDt hp hXt, Option.bind_some, ra, Option.bind_some]
          simp only [mJ_J, and_self, if_true]
          by_cases hR0 : R = 0
          · rw [if_pos hR0, if_pos hx, xbool_1, Option.bind_some, hSt, decide_eq_true hR0]; rfl
          · rw [if_neg hR0, if_pos hx, xbool_0, Option.bind_some, hSt, decide_eq_false hR0]; rfl
        have step1 : RN (nI p) (nI M) al c 1 S d 1 St d 2 := RN.one fun k => by
          rw [head k, hs, if_neg (by decide)]
          unfold fX9_catches_232
          rcases hcond with hc1 | ⟨hc1, hc2⟩
          · rw [hc1, if_pos (by decide)]; exact m252 k
          · have i1 : (1 : Int32) = nI 1 := by decide
            rw [i1, if_neg (fun e => by have := (nI_eq (by omega) (by omega)).mp e; omega), if_neg (nI_ge hc1 (by omega)), if_neg]
            · exact m252 k
            · rcases hal with rfl | rfl
              · exact absurd rfl hc2
              · decide
        have t24 : (m_J St 24 d, m_J St 25 d) = bwc c Xa Ho := by
          have a1 : m_J St 24 d = (bwc c Xa Ho).1 := by
            rw [hSt, mJ_I, mJ_J, if_neg (by omega), rb.2.2, hSm, mJ_J, if_neg (by omega), mJ_J, if_pos ⟨rfl, rfl⟩, e25]
          have a2 : m_J St 25 d = (bwc c Xa Ho).2 := by
            rw [hSt, mJ_I, mJ_J, if_neg (by omega), rb.2.2, hSm, mJ_J, if_pos ⟨rfl, rfl⟩, e26]
          rw [a1, a2]
        have t26 : m_J St 26 d = R := by rw [hSt, mJ_I, mJ_J, if_pos ⟨rfl, rfl⟩]
        have t27 : m_I St 27 d = bi (decide (R = 0)) := by rw [hSt, mI_I, if_pos ⟨rfl, rfl⟩]
        have tw : ∀ b, 21 ≤ b → b ≤ 23 → m_J St b d = m_J Sn b d := fun b hb1 hb2 => by
          rw [hSt, mJ_I, mJ_J, if_neg (by omega), rb.2.2, hSm, mJ_J, if_neg (by omega), mJ_J, if_neg (by omega)]
        have fin : ∀ T S1 (q : Bool), T ≤ 50 * (B + 2) + 2 → RN (nI p) (nI M) al c T St d 2 S1 d (if q = true then 3 else 1) → Kd d St S1 → (∀ a, 21 ≤ a → a ≤ 23 → m_J S1 a d = m_J St a d) → AN (fun a b => CG n a b p al) Xa Ho p = q →
            ∃ T S2, T ≤ (z + 1) * (50 * (B + 2) + 4) + 1 ∧ RN (nI p) (nI M) al c T S d 1 S2 d (if xb (∃ m, bt A m = true ∧ TR (fun a b => CG n a b p al) X H p m al = true) = true then 3 else 4) ∧ Kd d S S2 := by
          intro T S1 q hT r k w hq
          have hk : Kd d S S1 := (hk1.tr hk2).tr k
          cases q with
          | true =>
            refine ⟨1 + T, S1, ?_, ?_, hk⟩
            · have : (z + 1) * (50 * (B + 2) + 4) = z * (50 * (B + 2) + 4) + (50 * (B + 2) + 4) := Nat.succ_mul _ _
              omega
            · rw [if_pos (xb_t ⟨m, h1, hTR.trans hq⟩)]
              exact step1.tr r
          | false =>
            refine miss (hTR.trans hq) (1 + T) S1 (by omega) (step1.tr r) hk ?_ ?_
            · rw [w 21 (by omega) (by omega), w 22 (by omega) (by omega), tw 21 (by omega) (by omega), tw 22 (by omega) (by omega)]; exact hwn
            · rw [w 23 (by omega) (by omega), tw 23 (by omega) (by omega)]; exact row23
        by_cases hR0 : R = 0
        · rw [decide_eq_true hR0] at t27
          obtain ⟨T, S1, q1, q2, q3, q4⟩ := ans_pass hc hp hM hMC hDt hXt St d hd t24 (t26.trans hR0) t27
          refine fin T S1 _ (by omega) q2 q3 q4 ?_
          unfold AN
          rw [if_neg]
          intro h
          obtain ⟨a, -, ha⟩ := rng_any.mp h
          have := (hR a).mpr ha
          rw [hR0, bt_0] at this; cases this
        · rw [decide_eq_false hR0] at t27
          obtain ⟨T, S1, q1, q2, q3, q4⟩ := ans_loop hc hp hM hMC hDt hXt (cnt R) St d R rfl hd (fun a ha => (hR a).mp ha) t24 t26 t27
          have hRin : inA R := fun i hi => by
            cases q : bt R i
            · rfl
            · have h9 := (hR i).mp q
              unfold okA at h9
              rw [Bool.and_eq_true] at h9
              rw [hin i hi] at h9; cases h9.1
          have hc49 := cnt_49 hRin
          have hmul : cnt R * (B + 2) ≤ 49 * (B + 2) := Nat.mul_le_mul_right _ hc49
          refine fin T S1 (xb (∀ a, bt R a = true → CG n (Xa ||| pt a) (alv (Xa ||| pt a) Ho) p al = true)) (by omega) q2 q3 q4 ?_
          · unfold AN
            obtain ⟨y, -, hy, -⟩ := low_ex hR0
            · rw [if_pos (rng_any.mpr ⟨y, lt49 hRin hy, (hR y).mp hy⟩)]
              rw [Bool.eq_iff_iff, rng_all, xb_i]
              constructor
              · intro h a ha
                have h9 := h a (lt49 hRin ha)
                rw [(hR a).mp ha] at h9
                simpa using h9
              · intro h a ha
                cases q : okA Xa Ho p a
                · rfl
                · have h9 : (fun a b => CG n a b p al) (Xa ||| pt a) (alv (Xa ||| pt a) Ho) = true := h a ((hR a).mpr q)
                  rw [h9]; rfl
      · rw [if_neg hcond] at hTR
        refine idle hTR fun k => ?_
        rw [head k, hs, if_neg (by decide)]
        unfold fX9_catches_232
        have i1 : (1 : Int32) = nI 1 := by decide
        rw [i1, if_neg (fun e => hcond (Or.inl ((nI_eq (by omega) (by omega)).mp e)))]
        by_cases hle : cnt (libs (alv (H ||| pt m) X) (H ||| pt m) p) ≤ 1
        · rw [if_pos (nI_le hle (by omega))]; rfl
        · rw [if_neg (nI_ge (by omega) (by omega)), if_pos]
          · rfl
          · have : al = 2 := Classical.byContradiction fun h => hcond (Or.inr ⟨by omega, h⟩)
            rw [this]; decide
    · refine idle (by unfold TR; rw [hs, if_pos rfl]) fun k => ?_
      rw [head k, hs, if_pos rfl]
      unfold fX9_catches_232
      rw [if_neg (by decide), if_pos (by decide)]
      rfl
/-! PURE 16: reading as a whole. -/
theorem mc_all {p M : Nat} {al c : Int32} (hc : c = 0 ∨ c = 1) (hal : al = 2 ∨ al = 3) (hp : p < 49) (hM : M ≤ 8) : ∀ n, MC p M al c (n + 1) (10 ^ (4 * (n + 1))) := by
  intro n
  induction n with
  | zero =>
    intro S d X H hd hD hX hway
    have hx := xin_nI (k := d) (n := 10) (by omega) (by omega)
    have hcl := clp (k := d) (by omega)
    have hH : bt H p = false := by
      cases q : bt H p
      · rfl
      · exact (hD.2.2 p hX q).elim
    have hbw : (m_J S 21 d) = (bwc c X H).1 ∧ (m_J S 22 d) = (bwc c X H).2 := ⟨congrArg Prod.fst hway, congrArg Prod.snd hway⟩
    have h64 := cnt_64 (libs X H p)
    have i1 : (1 : Int32) = nI 1 := by decide
    have step0 : RN (nI p) (nI M) al c 1 S d 0 (ms_J S 23 d 0) d (if cnt (libs X H p) = 1 then 3 else 1) := RN.one fun k => by
      rw [fX9_catches_39, if_pos rfl, if_pos hx, hcl, hbw.1, hbw.2, libertiesAt_X9 (bwc_ok hD) hp, Option.bind_some, lbc_bwc hD (by omega) hH, pk_sub (by omega), show M - d = 1 by omega, if_pos (by decide)]
      unfold fX9_catches_111
      rw [if_pos hx, hcl]
      by_cases h1 : cnt (libs X H p) = 1
      · rw [if_pos h1, h1, if_pos n10]; rfl
      · rw [if_neg h1, i1, if_neg (fun e => h1 ((nI_eq (by omega) (by omega)).mp e))]; rfl
    have hk : Kd d S (ms_J S 23 d 0) := Kd.J (by omega) (Nat.le_refl _)
    by_cases h1 : cnt (libs X H p) = 1
    · rw [if_pos h1] at step0
      refine ⟨1, _, by decide, ?_, hk⟩
      have e : CG (0 + 1) X H p al = true := by rw [CG, if_pos h1]
      rw [e, if_pos rfl]; exact step0
    · rw [if_neg h1] at step0
      refine ⟨1 + 1, _, by decide, step0.tr (RN.one fun k => ?_), hk⟩
      have e : CG (0 + 1) X H p al = false := by rw [CG, if_neg h1, if_pos (Or.inl rfl)]
      have e23 : m_J (ms_J S 23 d 0) 23 d = 0 := by rw [mJ_J, if_pos ⟨rfl, rfl⟩]
      rw [e, if_neg ff, fX9_catches_39, if_neg (by decide), if_pos rfl, if_pos hx, hcl, e23, if_pos rfl]
      rfl
  | succ n ih =>
    intro S d X H hd hD hX hway
    have hx := xin_nI (k := d) (n := 10) (by omega) (by omega)
    have hcl := clp (k := d) (by omega)
    have hH : bt H p = false := by
      cases q : bt H p
      · rfl
      · exact (hD.2.2 p hX q).elim
    have hbw : (m_J S 21 d) = (bwc c X H).1 ∧ (m_J S 22 d) = (bwc c X H).2 := ⟨congrArg Prod.fst hway, congrArg Prod.snd hway⟩
    have h64 := cnt_64 (libs X H p)
    have i1 : (1 : Int32) = nI 1 := by decide
    obtain ⟨ts, hts⟩ : ∃ ts, ts = (if al < nI (cnt (libs X H p)) then 0 else tset al (libs X H p) X H) := ⟨_, rfl⟩
    have step0 : RN (nI p) (nI M) al c 1 S d 0 (ms_J S 23 d ts) d (if cnt (libs X H p) = 1 then 3 else 1) := RN.one fun k => by
      rw [fX9_catches_39, if_pos rfl, if_pos hx, hcl, hbw.1, hbw.2, libertiesAt_X9 (bwc_ok hD) hp, Option.bind_some, lbc_bwc hD (by omega) hH, pk_sub (by omega), i1, if_neg (nI_ge (by omega) (by omega)), attacks_X9 hD hp hX, Option.bind_some, ← hts]
      unfold fX9_catches_111
      rw [if_pos hx, hcl]
      by_cases h1 : cnt (libs X H p) = 1
      · rw [if_pos h1, h1, if_pos n10]; rfl
      · rw [if_neg h1, i1, if_neg (fun e => h1 ((nI_eq (by omega) (by omega)).mp e))]; rfl
    have hk : Kd d S (ms_J S 23 d ts) := Kd.J (by omega) (Nat.le_refl _)
    have hB : 1 ≤ 10 ^ (4 * (n + 1)) := Nat.pos_of_ne_zero (by simp)
    have hpow : 10 ^ (4 * (n + 1 + 1)) = 10000 * 10 ^ (4 * (n + 1)) := by rw [show 4 * (n + 1 + 1) = 4 * (n + 1) + 4 by omega, Nat.pow_add]; omega
    by_cases h1 : cnt (libs X H p) = 1
    · rw [if_pos h1] at step0
      refine ⟨1, _, by rw [hpow]; omega, ?_, hk⟩
      have e : CG (n + 1 + 1) X H p al = true := by rw [CG, if_pos h1]
      rw [e, if_pos rfl]; exact step0
    · rw [if_neg h1] at step0
      have hemp : ∀ m, bt ts m = true → m < 49 ∧ bt X m = false ∧ bt H m = false := fun m hm => by
        rw [hts] at hm
        split at hm
        · rw [bt_0] at hm; cases hm
        · exact tset_emp hm
      obtain ⟨T, S2, q1, q2, q3⟩ := try_loop hc hal hp hM ih hD hX (cnt ts) (ms_J S 23 d ts) d ts rfl hd hemp (by rw [mJ_J, if_neg (by omega), mJ_J, if_neg (by omega)]; exact hway) (by rw [mJ_J, if_pos ⟨rfl, rfl⟩])
      have hin : inA ts := fun i hi => by
        cases q : bt ts i
        · rfl
        · have := (hemp i q).1; omega
      have hc49 := cnt_49 hin
      have hmul : cnt ts * (50 * (10 ^ (4 * (n + 1)) + 2) + 4) ≤ 49 * (50 * (10 ^ (4 * (n + 1)) + 2) + 4) := Nat.mul_le_mul_right _ hc49
      refine ⟨1 + T, S2, by rw [hpow]; omega, ?_, hk.tr q3⟩
      have e : CG (n + 1 + 1) X H p al = xb (∃ m, bt ts m = true ∧ TR (fun a b => CG (n + 1) a b p al) X H p m al = true) := by
        rw [CG, if_neg h1]
        by_cases hlt : al < nI (cnt (libs X H p))
        · rw [if_pos (Or.inr hlt)]
          symm
          apply xb_f
          rintro ⟨m, a, -⟩
          rw [hts, if_pos hlt, bt_0] at a; cases a
        · rw [if_neg (fun z => z.elim (by omega) hlt), Bool.eq_iff_iff, rng_any, xb_i, hts, if_neg hlt]
          constructor
          · rintro ⟨m, a, b⟩
            rw [Bool.and_eq_true] at b
            exact ⟨m, b.1, b.2⟩
          · rintro ⟨m, a, b⟩
            exact ⟨m, (tset_emp a).1, by rw [a, b]; rfl⟩
      have r := step0.tr q2
      rw [e]
      exact r
/-- whether the chain at a point can be caught -/
def rdg (x : BW) (p M : Nat) (al : Int32) : Bool := if bt x.1 p = true then CG M x.1 x.2 p al else if bt x.2 p = true then CG M x.2 x.1 p al else false
theorem OKB.dj {x : BW} (h : OKB x) : DJ x.1 x.2 := h
theorem OKB.dj2 {x : BW} (h : OKB x) : DJ x.2 x.1 := ⟨h.2.1, h.1, fun i a b => h.2.2 i b a⟩
theorem canBeCaught_X4 {h : TH} {q : Nat} {x : BW} (hk : t_kd h q = 4) (hb : t_J h q 0 = x.1) (hw : t_J h q 1 = x.2) (ho : OKB x) {p M : Nat} (hp : p < 49) (hM : M < 8) (al : Int32) : fX4_canBeCaught h q (nI p) (nI (M + 1)) al = some (rdg x p (M + 1) al) := by
  unfold fX4_canBeCaught rdg
  rw [if_pos hk, hb, hw, pt_nI]
  by_cases h1 : bt x.1 p = true
  · rw [if_neg (fun e => by rw [(and_pt0 (by omega)).mp e] at h1; cases h1), rec_X5 hp M 9 x.1 x.2 hM (by omega) ho.dj, if_pos h1]; rfl
  · rw [if_pos ((and_pt0 (by omega)).mpr (by simpa using h1)), if_neg h1]
    by_cases h2 : bt x.2 p = true
    · rw [if_neg (fun e => by rw [(and_pt0 (by omega)).mp e] at h2; cases h2), rec_X5 hp M 9 x.2 x.1 hM (by omega) ho.dj2, if_pos h2, Option.bind_some]
      cases CG (M + 1) x.2 x.1 p al <;> rfl
    · rw [if_pos ((and_pt0 (by omega)).mpr (by simpa using h2)), if_neg h2]
theorem catches_17 {S : MS} {c : Int32} (hc : c = 0 ∨ c = 1) {X H : Int64} (hD : DJ X H) {p M : Nat} (hp : p < 49) (hM : M < 8) {al : Int32} (hal : al = 2 ∨ al = 3) (hX : bt X p = true) :
    ∃ S2, fX9_catches_17 S (bwc c X H).1 (bwc c X H).2 (nI p) (nI (M + 1)) al c = some (CG (M + 1) X H p al, S2) ∧ (∀ n, Sq n S S2) ∧ m_i S2 47 = m_i S 47 := by
  unfold fX9_catches_17
  rw [Option.bind_some, show (0 : Int32).toNatClampNeg = 0 from rfl]
  obtain ⟨T, S2, q1, q2, q3⟩ := mc_all hc hal hp (show M + 1 ≤ 8 by omega) M (ms_J (ms_J S 21 0 (bwc c X H).1) 22 0 (bwc c X H).2) 0 X H (by omega) hD hX (by
    simp only [mJ_J, and_self, if_true, Nat.reduceEqDiff, false_and, if_false])
  have hT : T ≤ 10 ^ 32 := Nat.le_trans q1 (Nat.pow_le_pow_right (by omega) (by omega))
  have hFU : FU = T + ((FU - T - 1) + 1) := by
    have : 10 ^ 32 < FU := by unfold FU; decide
    omega
  have r := q2 ((FU - T - 1) + 1)
  rw [← hFU] at r
  rw [show (0 : Int32) = nI 0 from rfl, show fX9_catches_39 FU (ms_J (ms_J S 21 0 (bwc c X H).1) 22 0 (bwc c X H).2) (nI p) (nI (M + 1)) al c (nI 0) (nI 0) = _ from r]
  refine ⟨S2, ?_, fun n => ((Sq.J (by omega)).tr (Sq.J (by omega))).tr q3.sq, q3.1 47 (by omega) (by omega)⟩
  cases CG (M + 1) X H p al
  · have f4 : (if false = true then (3 : Int32) else 4) = 4 := rfl
    rw [f4, fX9_catches_39, if_neg (by decide), if_neg (by decide), if_neg (by decide), if_pos n00, if_neg (by decide)]
  · rw [if_pos rfl, fX9_catches_39, if_neg (by decide), if_neg (by decide), if_neg (by decide), if_pos n00, if_pos rfl]
theorem reads_X9 {S : MS} {g L P p M : Nat} {x : BW} {l : List BW} {al : Int32} (hg : g < 16) (hP : P ≤ 4096) (h11 : m_I S 11 g = nI L) (H : WM S P L (x :: l)) (hx : OKB x) (hp : p < 49) (hM : M < 8) (hal : al = 2 ∨ al = 3) :
    ∃ S2, fX9_reads S (nI g) (nI p) (nI (M + 1)) al = some (rdg x p (M + 1) al, S2) ∧ (∀ n, Sq n S S2) ∧ m_i S2 47 = m_i S 47 := by
  have hL := H.1
  unfold fX9_reads
  rw [if_pos (xin_nI hg (by omega)), clp (k := g) (by omega), h11, if_pos (xin_nI (k := L) (by omega) (by omega)), clp (k := L) (by omega), H.2.1, H.2.2.1, isEmpty_X9 (by omega), Option.bind_some]
  unfold rdg fX9_catches
  rw [bit_X9, Option.bind_some]
  by_cases h1 : bt x.1 p = true
  · rw [decide_eq_false (fun z => by rw [h1] at z; cases z.1), if_pos rfl, if_neg (fun e => by rw [(and_pt0 (by omega)).mp e] at h1; cases h1), if_pos h1]
    obtain ⟨S2, r, q⟩ := catches_17 (S := S) (c := 0) (Or.inl rfl) hx.dj hp hM hal h1
    rw [show fX9_catches_17 S x.1 x.2 (nI p) (nI (M + 1)) al 0 = _ from r, Option.bind_some]
    refine ⟨S2, ?_, q⟩
    cases CG (M + 1) x.1 x.2 p al <;> rfl
  · rw [if_neg h1]
    by_cases h2 : bt x.2 p = true
    · rw [decide_eq_false (fun z => by rw [h2] at z; cases z.2), if_pos rfl, if_pos ((and_pt0 (by omega)).mpr (by simpa using h1)), if_pos h2]
      obtain ⟨S2, r, q⟩ := catches_17 (S := S) (c := 1) (Or.inr rfl) hx.dj2 hp hM hal h2
      rw [show fX9_catches_17 S x.1 x.2 (nI p) (nI (M + 1)) al 1 = _ from r, Option.bind_some]
      refine ⟨S2, ?_, q⟩
      cases CG (M + 1) x.2 x.1 p al <;> rfl
    · rw [if_neg h2, decide_eq_true ⟨by simpa using h1, by simpa using h2⟩, if_neg (by decide)]
      exact ⟨S, rfl, fun n => Sq.rf, rfl⟩
