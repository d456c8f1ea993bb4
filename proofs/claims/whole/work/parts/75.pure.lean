/-! PURE 30: a game begins: who is busy, the stones of the handicap. -/
/-- player a plays one of the games from i on, d of them -/
def bz (S : MS) (a : Nat) : Nat → Nat → Bool
  | _, 0 => false
  | i, d + 1 => (decide (m_I S 8 i = 0) && (decide (m_I S 3 i = nI a) || decide (m_I S 4 i = nI a))) || bz S a (i + 1) d
theorem bz_s {S : MS} {a i d : Nat} : bz S a i (d + 1) = ((decide (m_I S 8 i = 0) && (decide (m_I S 3 i = nI a) || decide (m_I S 4 i = nI a))) || bz S a (i + 1) d) := rfl
section GAME0
variable {u mo : Nat} {h : TH} {S : MS} {t c s n G N P : Nat} {gm nd : Nat → Nat} {gl nl : Nat → List BW} {ol : List Nat} {kp : Nat → Bool}
theorem plays_4 {a : Nat} (hG : G ≤ 16) (h4 : m_i S 4 = nI G) : ∀ (d fu i : Nat) (b : Bool), i + d = G → d < fu → fX9_plays_4 fu S (nI a) (bi b) (nI i) = some (b || bz S a i d) := by
  intro d
  induction d with
  | zero =>
    intro fu i b hi hf
    obtain ⟨fu, rfl⟩ : ∃ j, fu = j + 1 := ⟨fu - 1, by omega⟩
    rw [fX9_plays_4, h4, if_pos (nI_le (by omega) (by omega)), xbool_bi]
    cases b <;> rfl
  | succ d ih =>
    intro fu i b hi hf
    obtain ⟨fu, rfl⟩ : ∃ j, fu = j + 1 := ⟨fu - 1, by omega⟩
    have nx : ∀ b2 : Bool, fX9_plays_50 (fX9_plays_4 fu) S (nI a) (nI i) (bi b2) = some (b2 || bz S a (i + 1) d) := fun b2 => by
      unfold fX9_plays_50; rw [nI_1]; exact ih fu (i + 1) b2 (by omega) (by omega)
    have nt : fX9_plays_50 (fX9_plays_4 fu) S (nI a) (nI i) 1 = some (true || bz S a (i + 1) d) := nx true
    have nf : fX9_plays_50 (fX9_plays_4 fu) S (nI a) (nI i) 0 = some (false || bz S a (i + 1) d) := nx false
    rw [fX9_plays_4, h4, if_neg (nI_ge (by omega) (by omega)), bz_s, nt, nf]
    cases b
    · rw [if_pos bi0, if_pos (xin_nI (show i < 16 by omega) (by omega)), clp (show i < 2 ^ 31 by omega)]
      by_cases e8 : m_I S 8 i = 0
      · rw [if_pos e8, decide_eq_true e8]
        by_cases e3 : m_I S 3 i = nI a
        · rw [if_pos e3, decide_eq_true e3]; rfl
        · rw [if_neg e3, decide_eq_false e3]
          by_cases e4 : m_I S 4 i = nI a
          · rw [if_pos e4, decide_eq_true e4]; rfl
          · rw [if_neg e4, decide_eq_false e4]; rfl
      · rw [if_neg e8, decide_eq_false e8]; rfl
    · rw [if_neg bi1]; rfl
theorem plays_X9 (H : Rel u mo h S t c s n G N P gm nd gl nl ol kp) (a : Nat) : fX9_plays S (nI a) = some (bz S a 0 G) := by
  have h16 := H.G16
  unfold fX9_plays
  exact plays_4 h16 H.2.2.1.2.2.1 G FU 0 false (by omega) (by unfold FU; omega)
theorem isBusy_2 (H : Rel u mo h S t c s n G N P gm nd gl nl ol kp) (a : Nat) : ∀ (d fu i : Nat), i + d = 16 → d < fu → fX2_isBusy_2 fu h c (nI a) (nI i) = some (bz S a i (G - i)) := by
  have h16 := H.G16
  have hrow := H.2.2.1.2.2.2.1
  intro d
  induction d with
  | zero =>
    intro fu i hi hf
    obtain ⟨fu, rfl⟩ : ∃ j, fu = j + 1 := ⟨fu - 1, by omega⟩
    rw [fX2_isBusy_2, if_pos H.cb.1, H.cb.2.2.1.1, Option.bind_some, if_pos H.cb.2.2.1.2.1, H.cb.2.2.1.2.2, if_pos (nI_le (by omega) (by omega)), show G - i = 0 by omega]
    rfl
  | succ d ih =>
    intro fu i hi hf
    obtain ⟨fu, rfl⟩ : ∃ j, fu = j + 1 := ⟨fu - 1, by omega⟩
    have nx := ih fu (i + 1) (by omega) (by omega)
    rw [fX2_isBusy_2, if_pos H.cb.1, H.cb.2.2.1.1, Option.bind_some, if_pos H.cb.2.2.1.2.1, H.cb.2.2.1.2.2, if_neg (nI_ge (by omega) (by omega)), if_pos (xin_nI (by omega) (by omega)), clp (by omega), hrow i (by omega)]
    unfold fX2_isBusy_39
    rw [nI_1, nx]
    by_cases hG : i < G
    · have hM := H.gM hG
      have hk := hM.k3
      rw [if_pos hG, if_neg (by simp), Option.bind_some, if_pos hk]
      unfold fX3_goesOn fX3_isPlayedBy
      rw [if_pos hk, hM.2.1.2.2.1, if_pos hk, hM.2.2.2.1, hM.2.2.2.2.1, show G - i = (G - (i + 1)) + 1 by omega, bz_s]
      by_cases e8 : m_I S 8 i = 0
      · rw [if_pos e8, decide_eq_true e8, Option.bind_some, if_neg tf]
        by_cases e3 : m_I S 3 i = nI a
        · rw [if_pos e3, decide_eq_true e3, Option.bind_some, if_neg tf]; rfl
        · rw [if_neg e3, decide_eq_false e3]
          by_cases e4 : m_I S 4 i = nI a
          · rw [if_pos e4, decide_eq_true e4, Option.bind_some, if_neg tf]; rfl
          · rw [if_neg e4, decide_eq_false e4, Option.bind_some, if_pos rfl]; rfl
      · rw [if_neg e8, decide_eq_false e8, Option.bind_some, if_pos rfl]; rfl
    · rw [if_neg hG, if_pos rfl, show G - i = 0 by omega, show G - (i + 1) = 0 by omega]; rfl
theorem isBusy_X2 (H : Rel u mo h S t c s n G N P gm nd gl nl ol kp) (a : Nat) : fX2_isBusy h c (nI a) = some (bz S a 0 G) := isBusy_2 H a 16 FU 0 (by omega) (by unfold FU; omega)
/-- the stones of a handicap -/
def stB (k : Nat) : Int64 := if k ≤ 1 then 0 else if k = 2 then 4295032832 else if k = 3 then 4295294976 else 5369036800
theorem stones_X9 : ∀ k, k < 5 → fX9_stones (nI k) = some (stB k) := by decide +kernel
theorem stB_ok {k : Nat} : OKB (stB k, 0) := by
  unfold stB
  have : ∀ v ∈ [(0 : Int64), 4295032832, 4295294976, 5369036800], ∀ i, i < 64 → (49 ≤ i → bt v i = false) := by decide +kernel
  refine ⟨fun i hi => ?_, fun i _ => bt_0 i, fun i _ q => by rw [bt_0] at q; cases q⟩
  by_cases hi2 : i < 64
  · split
    · exact bt_0 i
    · split
      · exact this _ (by simp) i hi2 hi
      · split
        · exact this _ (by simp) i hi2 hi
        · exact this _ (by simp) i hi2 hi
  · exact bt_big (by omega)
/-- a first position -/
def nB (h : TH) (b : Int64) (cc : Int32) : TH := s_R (s_I (s_I (s_I (s_J (s_J (s_N h 4 0) (t_sz h) 0 b) (t_sz h) 1 0) (t_sz h) 2 cc) (t_sz h) 3 0) (t_sz h) 4 0) (t_sz h) 5 none
theorem nB_init {h : TH} {b : Int64} {cc : Int32} : fX4_init (s_N h 4 0) (t_sz h) b 0 cc 0 none = some (nB h b cc) := by
  unfold fX4_init fX4_init_37
  simp only [kd_sN, kd_sJ, kd_sI, if_true, Option.bind_some]
  rfl
theorem beginning_X4 {h : TH} {k : Nat} (hk : k < 5) : fX4_beginning h (nI k) = some (some (t_sz h), nB h (stB k) (if k ≤ 1 then 0 else 1)) := by
  obtain ⟨fu, hfu⟩ : ∃ j, FU = j + 1 + 1 + 1 + 1 + 1 := ⟨999999999999999999999999999999999999999999999999999999999995, rfl⟩
  have h51 : ∀ b : Int64, fX4_beginning_51 h b = some (some (t_sz h), nB h b 1) := fun b => by
    unfold fX4_beginning_51; rw [nB_init, Option.bind_some]
  have st : ∀ (fu i : Nat) (b : Int64), i < k → fX4_beginning_22 (fu + 1) h (nI k) b (nI i) = fX4_beginning_22 fu h (nI k) (b ||| (x_shl (1 : Int64) (hpI i))) (nI (i + 1)) := fun fu i b hi => by
    rw [fX4_beginning_22, if_neg (nI_ge hi (by omega)), if_neg (show ¬ (4 : Int32) ≤ nI i from nI_ge (b := 4) (by omega) (by omega)), if_pos (xin_nI (show i < 4 by omega) (by omega)), clp (show i < 2 ^ 31 by omega), nI_1]
  have en : ∀ (fu : Nat) (b : Int64), fX4_beginning_22 (fu + 1) h (nI k) b (nI k) = some (some (t_sz h), nB h b 1) := fun fu b => by
    rw [fX4_beginning_22, if_pos (nI_le (Nat.le_refl _) (by omega)), h51]
  unfold fX4_beginning
  rw [hfu, nB_init, show (0 : Int32) = nI 0 by decide]
  have hk5 : k = 0 ∨ k = 1 ∨ k = 2 ∨ k = 3 ∨ k = 4 := by omega
  rcases hk5 with rfl | rfl | rfl | rfl | rfl
  · rfl
  · rfl
  · rw [if_pos (by decide), st _ 0 _ (by omega), st _ 1 _ (by omega), en]; rfl
  · rw [if_pos (by decide), st _ 0 _ (by omega), st _ 1 _ (by omega), st _ 2 _ (by omega), en]; rfl
  · rw [if_pos (by decide), st _ 0 _ (by omega), st _ 1 _ (by omega), st _ 2 _ (by omega), st _ 3 _ (by omega), en]; rfl
end GAME0
/-! PURE 31: one game more. -/
section GAME1
variable {u mo : Nat} {h : TH} {S : MS} {t c s n G N P : Nat} {gm nd : Nat → Nat} {gl nl : Nat → List BW} {ol : List Nat} {kp : Nat → Bool}
/-- the relation with one game more -/
theorem Rel.game (H : Rel u mo h S t c s n G N P gm nd gl nl ol kp) (hG : G < 16) {h2 : TH} {S2 : MS} {z : Nat} {b : BW} (A : Bx h h2) (hz0 : t_kd h z = 0)
    (hI : ∀ a j, t_kd h a ≠ 0 → ¬ (a = c ∧ j = 3) → t_I h2 a j = t_I h a j) (hR : ∀ a j, t_kd h a ≠ 0 → ¬ (a = c + 2 ∧ j = G) → t_R h2 a j = t_R h a j)
    (hc3 : t_I h2 c 3 = nI (G + 1)) (hcG : t_R h2 (c + 2) G = some z) (hld : LDp mo h2)
    (ei : ∀ k, k ≠ 4 → k ≠ 21 → k ≠ 47 → m_i S2 k = m_i S k) (e4 : m_i S2 4 = nI (G + 1)) (e21 : m_i S2 21 = nI (P + 1))
    (eI : ∀ a, a < 3 ∨ a = 8 ∨ a = 9 ∨ a = 12 ∨ a = 13 ∨ a = 17 ∨ 21 ≤ a → m_I S2 a = m_I S a) (eN : ∀ a j, a ≤ 17 → a ≠ 14 → a ≠ 15 → j ≠ G → m_I S2 a j = m_I S a j) (eC : ∀ j, j < 2 * G → m_I S2 14 j = m_I S 14 j ∧ m_I S2 15 j = m_I S 15 j)
    (w3 : ∀ L, L < P → m_J S2 18 L = m_J S 18 L ∧ m_J S2 19 L = m_J S 19 L ∧ m_I S2 20 L = m_I S 20 L) (eJ : ∀ a, a ≠ 18 → a ≠ 19 → m_J S2 a = m_J S a)
    (hg : GM h2 S2 n z G) (hp : PM u h2 S2 (P + 1) z G [b]) (h10 : m_I S2 10 G = nI ol.length) (h3z : t_I h2 z 3 = nI (ol.filter kp).length) :
    Rel u mo h2 S2 t c s n (G + 1) N (P + 1) (upN gm G z) nd (upN gl G [b]) nl ol kp := by
  have Gq1 : Gq S S2 ol := fun x hx => by
    have hx2 := (H.2.2.2.1.2.2.2.2.1 x hx).1
    rw [eI 9 (by omega), eN 5 x (by omega) (by omega) (by omega) (by omega), eN 6 x (by omega) (by omega) (by omega) (by omega), eI 8 (by omega)]; exact ⟨rfl, rfl, rfl, rfl⟩
  obtain ⟨h0, h1, ⟨a1, a2, a3, a4, a5, a6⟩, h3, h4, h5, h6⟩ := H
  have hkc : t_kd h c = 2 := h0.2.2.2.1.1
  have hk5 : t_kd h s = 5 := h0.2.2.2.2.1
  have k12 : t_kd h (c + 2) = 12 := h0.2.2.2.1.2.2.1.2.1
  have hI9 : ∀ a j, t_kd h a ≠ 0 → t_kd h a ≠ 2 → t_I h2 a j = t_I h a j := fun a j b1 b2 => hI a j b1 (fun z => by rw [z.1] at b2; exact b2 hkc)
  have hR9 : ∀ a j, t_kd h a ≠ 0 → t_kd h a ≠ 12 → t_R h2 a j = t_R h a j := fun a j b1 b2 => hR a j b1 (fun z => by rw [z.1] at b2; exact b2 k12)
  have hzn : ∀ i, i < G → gm i ≠ z := fun i hi e => by
    have := (a6 i hi).1.k3
    rw [e] at this; omega
  have ebg : ∀ i, i < G → bg S2 i = bg S i := fun i hi => by unfold bg; rw [eN 7 i (by omega) (by omega) (by omega) (by omega)]
  refine ⟨h0.bx A, ?_, ⟨by omega, hc3, e4, fun i hi => ?_, fun i j hi hj e => ?_, fun j hj => ?_⟩, ?_, ?_, ?_, hld⟩
  · have := h1.bx (h2 := h2) (hI c 1 (by omega) (by omega)) (fun a _ => hI9 (c + 1) a (by have := h0.2.2.2.1.2.1.2.1; omega) (by have := h0.2.2.2.1.2.1.2.1; omega))
    unfold R1 at *
    rw [ei 0 (by omega) (by omega) (by omega), eI 0 (by omega)]
    exact this
  · by_cases q : i = G
    · subst q; rw [hcG, if_pos (by omega), upN_at]
    · rw [hR _ _ (by omega) (fun z => q z.2), a4 i hi]
      by_cases q2 : i < G
      · rw [if_pos q2, if_pos (by omega), upN_ne q]
      · rw [if_neg q2, if_neg (by omega)]
  · by_cases q : i = G
    · by_cases q2 : j = G
      · omega
      · rw [q, upN_at, upN_ne q2] at e
        exact absurd e.symm (hzn j (by omega))
    · by_cases q2 : j = G
      · rw [q2, upN_at, upN_ne q] at e
        exact absurd e (hzn i (by omega))
      · rw [upN_ne q, upN_ne q2] at e
        exact a5 i j (by omega) (by omega) e
  · by_cases q : j = G
    · subst q; rw [upN_at, upN_at]; exact ⟨hg, hp⟩
    · rw [upN_ne q, upN_ne q]
      have hjG : j < G := by omega
      obtain ⟨b1, b2⟩ := a6 j hjG
      have k3 := b1.k3
      have k9 := b2.2.2.2.2.2.2.2.1
      have hp1 : PM u h2 S P (gm j) j (gl j) := b2.bx A k3 (hR9 _ _ (by omega) (by omega)) (fun k _ => hI9 _ _ (by omega) (by omega))
      have hg1 : GM h2 S n (gm j) j := b1.bx A (hI9 _ _ (by omega) (by omega)) (hI9 _ _ (by omega) (by omega)) (fun k' j' hk2 _ => by
        have := (b1.2.2.2.2.2.2.2.2.2.2.2 k' hk2).1
        exact hI9 _ _ (by omega) (by omega))
      exact ⟨hg1.cg (fun a b1 b2 => eN a j (by omega) (by omega) (by omega) q) (fun k hk => eC _ (by omega)) (eN 16 j (by omega) (by omega) (by omega) q), hp1.cg (Nat.le_succ _) (fun a ha => eN a j (by omega) (by omega) (by omega) q) w3⟩
  · have k12' := h0.2.2.2.1.2.2.2.2.1
    have := h3.bx A (fun i hi => (a6 i hi).1.k3) (hI c 5 (by omega) (by omega)) (fun j => hR _ _ (by omega) (by omega))
    obtain ⟨b1, b2, b3, b4, b5, b6, b7, b8, b9, b10, b11⟩ := this
    refine ⟨fun j y hj => by rw [eI 17 (by omega)]; exact b1 j y hj, b2, by rw [ei 19 (by omega) (by omega) (by omega)]; exact b3, b4, fun y hy => by rw [eI 8 (by omega)]; exact ⟨by have := (b5 y hy).1; omega, (b5 y hy).2⟩, fun y hy h => ?_, b7, fun j g hj => ?_, fun y hy hk2 => by rw [eI 9 (by omega)]; exact b9 y hy hk2, fun i hi => ?_, fun b hb => ?_⟩
    · rw [eI 8 (by omega)] at h
      by_cases q : y = G
      · subst q; exact absurd (h5.2.2.1 y (Nat.le_refl _) hG).1 h
      · exact b6 y (by omega) h
    · have hg2 := (b5 g (List.mem_filter.mp (List.mem_of_getElem? hj)).1).1
      rw [upN_ne (by omega)]; exact b8 j g hj
    · by_cases q : i = G
      · subst q
        exact ⟨ol.length, Nat.le_refl _, h10, by rw [upN_at, List.take_length]; exact h3z⟩
      · rw [upN_ne q, eN 10 i (by omega) (by omega) (by omega) q]
        exact b10 i (by omega)
    · rw [eI 1 (by omega), eI 2 (by omega), stdF_q Gq1 (by rw [eI 0 (by omega)])]
      exact b11 b hb
  · refine h4.bx A (Nat.le_succ _) (fun i hi => ⟨[], by rw [upN_ne (by omega)]; rfl⟩) ebg (fun a b1 b2 => eI a (by omega)) (ei 36 (by omega) (by omega) (by omega)) ⟨eJ 34 (by omega) (by omega), eJ 35 (by omega) (by omega)⟩ (hI9 s 2 (by omega) (by omega)) (fun i _ => hR9 _ _ (by have := h0.2.2.2.2.2.1.2.1; omega) (by have := h0.2.2.2.2.2.1.2.1; omega)) (fun a ha => hI9 a 7 (by omega) (by omega)) (fun i j hi _ => ?_)
    have q9 := (h4.2.2.2.2.2.2 i hi).2.2.2.2.1.2.1
    exact hI9 _ _ (by omega) (by omega)
  · refine ⟨e21, fun i hi => ?_, ⟨fun j b1 b2 => by rw [eI 8 (by omega), eI 9 (by omega), eI 12 (by omega), eI 13 (by omega)]; exact h5.2.2.1 j (by omega) b2, fun j k' b1 b2 b3 => by rw [eI 36 (by omega)]; exact h5.2.2.2 j k' b1 b2 b3⟩⟩
    by_cases q : i = G
    · subst q; rw [upN_at]; simp
    · rw [upN_ne q]; have := h5.2.1 i (by omega); omega
end GAME1
