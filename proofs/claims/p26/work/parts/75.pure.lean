/-! PURE 30: a game begins: who is busy, the stones of the handicap. -/
/-- player a plays one of the games from i on, d of them -/
def bz (S : MS) (a : Nat) : Nat → Nat → Bool
  | _, 0 => false
  | i, d + 1 => (decide (m_I S 8 i = 0) && (decide (m_I S 3 i = nI a) || decide (m_I S 4 i = nI a))) || bz S a (i + 1) d
theorem bz_s {S : MS} {a i d : Nat} : bz S a i (d + 1) = ((decide (m_I S 8 i = 0) && (decide (m_I S 3 i = nI a) || decide (m_I S 4 i = nI a))) || bz S a (i + 1) d) := rfl
section GAME0
variable {u mo : Nat} {h : TH} {S : MS} {t c s n G N P : Nat} {gm nd : Nat → Nat} {gl nl : Nat → List BW} {ol : List Nat} {kp : Nat → Bool}
theorem plays_4 {a : Nat} (hG : G ≤ 16) (h4 : m_i S 4 = nI G) : ∀ (d fu i : Nat) (b : Bool), i + d = G → d < fu → fX9_plays_4 fu S (nI a) (bi b) (nI i) = some (b || bz S a i d) := by
  intro d
  induction d with
  | zero =>
    intro fu i b hi hf
    obtain ⟨fu, rfl⟩ : ∃ j, fu = j + 1 := ⟨fu - 1, by omega⟩
    rw [fX9_plays_4, h4, if_pos (nI_le (by omega) (by omega)), xbool_bi]
    cases b <;> rfl
  | succ d ih =>
    intro fu i b hi hf
    obtain ⟨fu, rfl⟩ : ∃ j, fu = j + 1 := ⟨fu - 1, by omega⟩
    have nx : ∀ b2 : Bool, fX9_plays_50 (fX9_plays_4 fu) S (nI a) (nI i) (bi b2) = some (b2 || bz S a (i + 1) d) := fun b2 => by
      unfold fX9_plays_50; rw [nI_1]; exact ih fu (i + 1) b2 (by omega) (by omega)
    have nt : fX9_plays_50 (fX9_plays_4 fu) S (nI a) (nI i) 1 = some (true || bz S a (i + 1) d) := nx true
    have nf : fX9_plays_50 (fX9_plays_4 fu) S (nI a) (nI i) 0 = some (false || bz S a (i + 1) d) := nx false
    rw [fX9_plays_4, h4, if_neg (nI_ge (by omega) (by omega)), bz_s, nt, nf]
    cases b
    · rw [if_pos bi0, if_pos (xin_nI (show i < 16 by omega) (by omega)), clp (show i < 2 ^ 31 by omega)]
      by_cases e8 : m_I S 8 i = 0
      · rw [if_pos e8, decide_eq_true e8]
        by_cases e3 : m_I S 3 i = nI a
        · rw [if_pos e3, decide_eq_true e3]; rfl
        · rw [if_neg e3, decide_eq_false e3]
          by_cases e4 : m_I S 4 i = nI a
          · rw [if_pos e4, decide_eq_true e4]; rfl
          · rw [if_neg e4, decide_eq_false e4]; rfl
      · rw [if_neg e8, decide_eq_false e8]; rfl
    · rw [if_neg bi1]; rfl
theorem plays_X9 (H : Rel u mo h S t c s n G N P gm nd gl nl ol kp) (a : Nat) : fX9_plays S (nI a) = some (bz S a 0 G) := by
  have h16 := H.G16
  unfold fX9_plays
  exact plays_4 h16 H.2.2.1.2.2.1 G FU 0 false (by omega) (by unfold FU; omega)
theorem isBusy_2 (H : Rel u mo h S t c s n G N P gm nd gl nl ol kp) (a : Nat) : ∀ (d fu i : Nat), i + d = 16 → d < fu → fX2_isBusy_2 fu h c (nI a) (nI i) = some (bz S a i (G - i)) := by
  have h16 := H.G16
  have hrow := H.2.2.1.2.2.2.1
  intro d
  induction d with
  | zero =>
    intro fu i hi hf
    obtain ⟨fu, rfl⟩ : ∃ j, fu = j + 1 := ⟨fu - 1, by omega⟩
    rw [fX2_isBusy_2, if_pos H.cb.1, H.cb.2.2.1.1, Option.bind_some, if_pos H.cb.2.2.1.2.1, H.cb.2.2.1.2.2, if_pos (nI_le (by omega) (by omega)), show G - i = 0 by omega]
    rfl
  | succ d ih =>
    intro fu i hi hf
    obtain ⟨fu, rfl⟩ : ∃ j, fu = j + 1 := ⟨fu - 1, by omega⟩
    have nx := ih fu (i + 1) (by omega) (by omega)
    rw [fX2_isBusy_2, if_pos H.cb.1, H.cb.2.2.1.1, Option.bind_some, if_pos H.cb.2.2.1.2.1, H.cb.2.2.1.2.2, if_neg (nI_ge (by omega) (by omega)), if_pos (xin_nI (by omega) (by omega)), clp (by omega), hrow i (by omega)]
    unfold fX2_isBusy_39
    rw [nI_1, nx]
    by_cases hG : i < G
    · have hM := H.gM hG
      have hk := hM.k3
      rw [if_pos hG, if_neg (by simp), Option.bind_some, if_pos hk]
      unfold fX3_goesOn fX3_isPlayedBy
      rw [if_pos hk, hM.2.1.2.2.1, if_pos hk, hM.2.2.2.1, hM.2.2.2.2.1, show G - i = (G - (i + 1)) + 1 by omega, bz_s]
      by_cases e8 : m_I S 8 i = 0
      · rw [if_pos e8, decide_eq_true e8, Option.bind_some, if_neg tf]
        by_cases e3 : m_I S 3 i = nI a
        · rw [if_pos e3, decide_eq_true e3, Option.bind_some, if_neg tf]; rfl
        · rw [if_neg e3, decide_eq_false e3]
          by_cases e4 : m_I S 4 i = nI a
          · rw [if_pos e4, decide_eq_true e4, Option.bind_some, if_neg tf]; rfl
          · rw [if_neg e4, decide_eq_false e4, Option.bind_some, if_pos rfl]; rfl
      · rw [if_neg e8, decide_eq_false e8, Option.bind_some, if_pos rfl]; rfl
    · rw [if_neg hG, if_pos rfl, show G - i = 0 by omega, show G - (i + 1) = 0 by omega]; rfl
theorem isBusy_X2 (H : Rel u mo h S t c s n G N P gm nd gl nl ol kp) (a : Nat) : fX2_isBusy h c (nI a) = some (bz S a 0 G) := isBusy_2 H a 16 FU 0 (by omega) (by unfold FU; omega)
/-- the stones of a handicap -/
def stB (k : Nat) : Int64 := if k ≤ 1 then 0 else if k = 2 then 4295032832 else if k = 3 then 4295294976 else 5369036800
theorem stones_X9 : ∀ k, k < 5 → fX9_stones (nI k) = some (stB k) := by decide +kernel
theorem stB_ok {k : Nat} : OKB (stB k, 0) := by
  unfold stB
  have : ∀ v ∈ [(0 : Int64), 4295032832, 4295294976, 5369036800], ∀ i, i < 64 → (49 ≤ i → bt v i = false) := by decide +kernel
  refine ⟨fun i hi => ?_, fun i _ => bt_0 i, fun i _ q => by rw [bt_0] at q; cases q⟩
  by_cases hi2 : i < 64
  · split
    · exact bt_0 i
    · split
      · exact this _ (by simp) i hi2 hi
      · split
        · exact this _ (by simp) i hi2 hi
        · exact this _ (by simp) i hi2 hi
  · exact bt_big (by omega)
/-- a first position -/
def nB (h : TH) (b : Int64) (cc : Int32) : TH := s_R (s_I (s_I (s_I (s_J (s_J (s_N h 4 0) (t_sz h) 0 b) (t_sz h) 1 0) (t_sz h) 2 cc) (t_sz h) 3 0) (t_sz h) 4 0) (t_sz h) 5 none
theorem nB_init {h : TH} {b : Int64} {cc : Int32} : fX4_init (s_N h 4 0) (t_sz h) b 0 cc 0 none = some (nB h b cc) := by
  unfold fX4_init fX4_init_37
  simp only [kd_sN, kd_sJ, kd_sI, if_true, Option.bind_some]
  rfl
theorem beginning_X4 {h : TH} {k : Nat} (hk : k < 5) : fX4_beginning h (nI k) = some (some (t_sz h), nB h (stB k) (if k ≤ 1 then 0 else 1)) := by
  obtain ⟨fu, hfu⟩ : ∃ j, FU = j + 1 + 1 + 1 + 1 + 1 := ⟨999999999999999999999999999999999999999999999999999999999995, rfl⟩
  have h51 : ∀ b : Int64, fX4_beginning_51 h b = some (some (t_sz h), nB h b 1) := fun b => by
    unfold fX4_beginning_51; rw [nB_init, Option.bind_some]
  have st : ∀ (fu i : Nat) (b : Int64), i < k → fX4_beginning_22 (fu + 1) h (nI k) b (nI i) = fX4_beginning_22 fu h (nI k) (b ||| (x_shl (1 : Int64) (hpI i))) (nI (i + 1)) := fun fu i b hi => by
    rw [fX4_beginning_22, if_neg (nI_ge hi (by omega)), if_neg (show ¬ (4 : Int32) ≤ nI i from nI_ge (b := 4) (by omega) (by omega)), if_pos (xin_nI (show i < 4 by omega) (by omega)), clp (show i < 2 ^ 31 by omega), nI_1]
  have en : ∀ (fu : Nat) (b : Int64), fX4_beginning_22 (fu + 1) h (nI k) b (nI k) = some (some (t_sz h), nB h b 1) := fun fu b => by
    rw [fX4_beginning_22, if_pos (nI_le (Nat.le_refl _) (by omega)), h51]
  unfold fX4_beginning
  rw [hfu, nB_init, show (0 : Int32) = nI 0 by decide]
  have hk5 : k = 0 ∨ k = 1 ∨ k = 2 ∨ k = 3 ∨ k = 4 := by omega
  rcases hk5 with rfl | rfl | rfl | rfl | rfl
  · rfl
  · rfl
  · rw [if_pos (by decide), st _ 0 _ (by omega), st _ 1 _ (by omega), en]; rfl
  · rw [if_pos (by decide), st _ 0 _ (by omega), st _ 1 _ (by omega), st _ 2 _ (by omega), en]; rfl
  · rw [if_pos (by decide), st _ 0 _ (by omega), st _ 1 _ (by omega), st _ 2 _ (by omega), st _ 3 _ (by omega), en]; rfl
end GAME0
/-! PURE 31: one game more. -/
section GAME1
variable {u mo : Nat} {h : TH} {S : MS} {t c s n G N P : Nat} {gm nd : Nat → Nat} {gl nl : Nat → List BW} {ol : List Nat} {kp : Nat → Bool}
/-- the relation with one game more -/
theorem Rel.game (H : Rel u mo h S t c s n G N P gm nd gl nl ol kp) (hG : G < 16) {h2 : TH} {S2 : MS} {z : Nat} {b : BW} (A : Bx h h2) (hz0 : t_kd h z = 0)
    (hI : ∀ a j, t_kd h a ≠ 0 → ¬ (a = c ∧ j = 3) → t_I h2 a j = t_I h a j) (hR : ∀ a j, t_kd h a ≠ 0 → ¬ (a = c + 2 ∧ j = G) → t_R h2 a j = t_R h a j)
    (hc3 : t_I h2 c 3 = nI (G + 1)) (hcG : t_R h2 (c + 2) G = some z) (hld : LDp mo h2)
    (ei : ∀ k, k ≠ 4 → k ≠ 21 → k ≠ 47 → m_i S2 k = m_i S k) (e4 : m_i S2 4 = nI (G + 1)) (e21 : m_i S2 21 = nI (P + 1))
    (eI : ∀ a, a < 3 ∨ a = 8 ∨ a = 9 ∨ a = 12 ∨ a = 13 ∨ a = 17 ∨ 21 ≤ a → m_I S2 a = m_I S a) (eN : ∀ a j, a ≤ 17 → a ≠ 14 → a ≠ 15 → j ≠ G → m_I S2 a j = m_I S a j) (eC : ∀ j, j < 2 * G → m_I S2 14 j = m_I S 14 j ∧ m_I S2 15 j = m_I S 15 j)
    (w3 : ∀ L, L < P → m_J S2 18 L = m_J S 18 L ∧ m_J S2 19 L = m_J S 19 L ∧ m_I S2 20 L = m_I S 20 L) (eJ : ∀ a, a ≠ 18 → a ≠ 19 → m_J S2 a = m_J S a)
    (hg : GM h2 S2 n z G) (hp : PM u h2 S2 (P + 1) z G [b]) (h10 : m_I S2 10 G = nI ol.length) (h3z : t_I h2 z 3 = nI (ol.filter kp).length) :
    Rel u mo h2 S2 t c s n (G + 1) N (P + 1) (upN gm G z) nd (upN gl G [b]) nl ol kp := by
  have Gq1 : Gq S S2 ol := fun x hx => by
    have hx2 := (H.2.2.2.1.2.2.2.2.1 x hx).1
    rw [eI 9 (by omega), eN 5 x (by omega) (by omega) (by omega) (by omega), eN 6 x (by omega) (by omega) (by omega) (by omega), eI 8 (by omega)]; exact ⟨rfl, rfl, rfl, rfl⟩
  obtain ⟨h0, h1, ⟨a1, a2, a3, a4, a5, a6⟩, h3, h4, h5, h6⟩ := H
  have hkc : t_kd h c = 2 := h0.2.2.2.1.1
  have hk5 : t_kd h s = 5 := h0.2.2.2.2.1
  have k12 : t_kd h (c + 2) = 12 := h0.2.2.2.1.2.2.1.2.1
  have hI9 : ∀ a j, t_kd h a ≠ 0 → t_kd h a ≠ 2 → t_I h2 a j = t_I h a j := fun a j b1 b2 => hI a j b1 (fun z => by rw [z.1] at b2; exact b2 hkc)
  have hR9 : ∀ a j, t_kd h a ≠ 0 → t_kd h a ≠ 12 → t_R h2 a j = t_R h a j := fun a j b1 b2 => hR a j b1 (fun z => by rw [z.1] at b2; exact b2 k12)
  have hzn : ∀ i, i < G → gm i ≠ z := fun i hi e => by
    have := (a6 i hi).1.k3
    rw [e] at this; omega
  have ebg : ∀ i, i < G → bg S2 i = bg S i := fun i hi => by unfold bg; rw [eN 7 i (by omega) (by omega) (by omega) (by omega)]
  refine ⟨h0.bx A, ?_, ⟨by omega, hc3, e4, fun i hi => ?_, fun i j hi hj e => ?_, fun j hj => ?_⟩, ?_, ?_, ?_, hld⟩
  · have := h1.bx (h2 := h2) (hI c 1 (by omega) (by omega)) (fun a _ => hI9 (c + 1) a (by have := h0.2.2.2.1.2.1.2.1; omega) (by have := h0.2.2.2.1.2.1.2.1; omega))
    unfold R1 at *
    rw [ei 0 (by omega) (by omega) (by omega), eI 0 (by omega)]
    exact this
  · by_cases q : i = G
    · subst q; rw [hcG, if_pos (by omega), upN_at]
    · rw [hR _ _ (by omega) (fun z => q z.2), a4 i hi]
      by_cases q2 : i < G
      · rw [if_pos q2, if_pos (by omega), upN_ne q]
      · rw [if_neg q2, if_neg (by omega)]
  · by_cases q : i = G
    · by_cases q2 : j = G
      · omega
      · rw [q, upN_at, upN_ne q2] at e
        exact absurd e.symm (hzn j (by omega))
    · by_cases q2 : j = G
      · rw [q2, upN_at, upN_ne q] at e
        exact absurd e (hzn i (by omega))
      · rw [upN_ne q, upN_ne q2] at e
        exact a5 i j (by omega) (by omega) e
  · by_cases q : j = G
    · subst q; rw [upN_at, upN_at]; exact ⟨hg, hp⟩
    · rw [upN_ne q, upN_ne q]
      have hjG : j < G := by omega
      obtain ⟨b1, b2⟩ := a6 j hjG
      have k3 := b1.k3
      have k9 := b2.2.2.2.2.2.2.2.1
      have hp1 : PM u h2 S P (gm j) j (gl j) := b2.bx A k3 (hR9 _ _ (by omega) (by omega)) (fun k _ => hI9 _ _ (by omega) (by omega))
      have hg1 : GM h2 S n (gm j) j := b1.bx A (hI9 _ _ (by omega) (by omega)) (hI9 _ _ (by omega) (by omega)) (fun k' j' hk2 _ => by
        have := (b1.2.2.2.2.2.2.2.2.2.2.2 k' hk2).1
        exact hI9 _ _ (by omega) (by omega))
      exact ⟨hg1.cg (fun a b1 b2 => eN a j (by omega) (by omega) (by omega) q) (fun k hk => eC _ (by omega)) (eN 16 j (by omega) (by omega) (by omega) q), hp1.cg (Nat.le_succ _) (fun a ha => eN a j (by omega) (by omega) (by omega) q) w3⟩
  · have k12' := h0.2.2.2.1.2.2.2.2.1
    have := h3.bx A (fun i hi => (a6 i hi).1.k3) (hI c 5 (by omega) (by omega)) (fun j => hR _ _ (by omega) (by omega))
    obtain ⟨b1, b2, b3, b4, b5, b6, b7, b8, b9, b10, b11⟩ := this
    refine ⟨fun j y hj => by rw [eI 17 (by omega)]; exact b1 j y hj, b2, by rw [ei 19 (by omega) (by omega) (by omega)]; exact b3, b4, fun y hy => by rw [eI 8 (by omega)]; exact ⟨by have := (b5 y hy).1; omega, (b5 y hy).2⟩, fun y hy h => ?_, b7, fun j g hj => ?_, fun y hy hk2 => by rw [eI 9 (by omega)]; exact b9 y hy hk2, fun i hi => ?_, fun b hb => ?_⟩
    · rw [eI 8 (by omega)] at h
      by_cases q : y = G
      · subst q; exact absurd (h5.2.2.1 y (Nat.le_refl _) hG).1 h
      · exact b6 y (by omega) h
    · have hg2 := (b5 g (List.mem_filter.mp (List.mem_of_getElem? hj)).1).1
      rw [upN_ne (by omega)]; exact b8 j g hj
    · by_cases q : i = G
      · subst q
        exact ⟨ol.length, Nat.le_refl _, h10, by rw [upN_at, List.take_length]; exact h3z⟩
      · rw [upN_ne q, eN 10 i (by omega) (by omega) (by omega) q]
        exact b10 i (by omega)
    · rw [eI 1 (by omega), eI 2 (by omega), stdF_q Gq1 (by rw [eI 0 (by omega)])]
      exact b11 b hb
  · refine h4.bx A (Nat.le_succ _) (fun i hi => ⟨[], by rw [upN_ne (by omega)]; rfl⟩) ebg (fun a b1 b2 => eI a (by omega)) (ei 36 (by omega) (by omega) (by omega)) ⟨eJ 34 (by omega) (by omega), eJ 35 (by omega) (by omega)⟩ (hI9 s 2 (by omega) (by omega)) (fun i _ => hR9 _ _ (by have := h0.2.2.2.2.2.1.2.1; omega) (by have := h0.2.2.2.2.2.1.2.1; omega)) (fun a ha => hI9 a 7 (by omega) (by omega)) (fun i j hi _ => ?_)
    have q9 := (h4.2.2.2.2.2.2 i hi).2.2.2.2.1.2.1
    exact hI9 _ _ (by omega) (by omega)
  · refine ⟨e21, fun i hi => ?_, ⟨fun j b1 b2 => by rw [eI 8 (by omega), eI 9 (by omega), eI 12 (by omega), eI 13 (by omega)]; exact h5.2.2.1 j (by omega) b2, fun j k' b1 b2 b3 => by rw [eI 36 (by omega)]; exact h5.2.2.2 j k' b1 b2 b3⟩⟩
    by_cases q : i = G
    · subst q; rw [upN_at]; simp
    · rw [upN_ne q]; have := h5.2.1 i (by omega); omega
end GAME1
/-! PURE 32: the class's new game. -/
/-- the cells of a new game, before its position is made -/
def nM (h : TH) (a b pr c5 : Int32) (k1 k2 : Option Nat) : TH :=
  s_R (s_R (s_I (s_I (s_I (s_I (s_I (s_R (s_N (s_N h 3 0) 9 49) (t_sz h) 7 (some (t_sz h + 1))) (t_sz h) 8 0) (t_sz h) 0 a) (t_sz h) 1 b) (t_sz h) 2 pr) (t_sz h) 3 c5) (t_sz h) 4 k1) (t_sz h) 5 k2
section NM2
variable {h : TH} {a b pr c5 : Int32} {k1 k2 : Option Nat}
theorem nM_xt (hf : t_kd h (t_sz h) = 0) (hf1 : t_kd h (t_sz h + 1) = 0) : Xt h (nM h a b pr c5 k1 k2) :=
  ((((((((((Xt.rf.N hf).N (kd := 9) (n := 49) hf1).R hf).I hf).I hf).I hf).I hf).I hf).R hf).R hf)
theorem nM_ld {mo : Nat} (H : LDp mo h) : LDp mo (nM h a b pr c5 k1 k2) := (LDp.N (kd := 9) (n := 49) (LDp.N (kd := 3) (n := 0) H) : LDp mo (s_N (s_N h 3 0) 9 49))
theorem nM_kd {q : Nat} : t_kd (nM h a b pr c5 k1 k2) q = if q = t_sz h + 1 then 9 else if q = t_sz h then 3 else t_kd h q := by
  unfold nM; simp only [kd_sI, kd_sJ, kd_sR, kd_sN, ln_sI, ln_sJ, ln_sR, ln_sN, sz_sI, sz_sJ, sz_sR, sz_sN, I_sI, I_sJ, I_sR, I_sN, J_sI, J_sJ, J_sR, J_sN, R_sI, R_sJ, R_sR, R_sN]; rfl
theorem nM_ln {q : Nat} : t_ln (nM h a b pr c5 k1 k2) q = if q = t_sz h + 1 then 49 else if q = t_sz h then 0 else t_ln h q := by
  unfold nM; simp only [kd_sI, kd_sJ, kd_sR, kd_sN, ln_sI, ln_sJ, ln_sR, ln_sN, sz_sI, sz_sJ, sz_sR, sz_sN, I_sI, I_sJ, I_sR, I_sN, J_sI, J_sJ, J_sR, J_sN, R_sI, R_sJ, R_sR, R_sN]; rfl
theorem nM_sz : t_sz (nM h a b pr c5 k1 k2) = t_sz h + 2 := rfl
theorem nM_I : t_I (nM h a b pr c5 k1 k2) (t_sz h) 0 = a ∧ t_I (nM h a b pr c5 k1 k2) (t_sz h) 1 = b ∧ t_I (nM h a b pr c5 k1 k2) (t_sz h) 2 = pr ∧ t_I (nM h a b pr c5 k1 k2) (t_sz h) 3 = c5 ∧ t_I (nM h a b pr c5 k1 k2) (t_sz h) 8 = 0 ∧ t_I (nM h a b pr c5 k1 k2) (t_sz h) 9 = 0 ∧ ∀ k, t_I (nM h a b pr c5 k1 k2) (t_sz h + 1) k = 0 := by
  unfold nM
  refine ⟨?_, ?_, ?_, ?_, ?_, ?_, fun k => ?_⟩ <;> simp [kd_sI, kd_sJ, kd_sR, kd_sN, ln_sI, ln_sJ, ln_sR, ln_sN, sz_sI, sz_sJ, sz_sR, sz_sN, I_sI, I_sJ, I_sR, I_sN, J_sI, J_sJ, J_sR, J_sN, R_sI, R_sJ, R_sR, R_sN]
theorem nM_R : t_R (nM h a b pr c5 k1 k2) (t_sz h) 4 = k1 ∧ t_R (nM h a b pr c5 k1 k2) (t_sz h) 5 = k2 ∧ t_R (nM h a b pr c5 k1 k2) (t_sz h) 7 = some (t_sz h + 1) := by
  unfold nM
  refine ⟨?_, ?_, ?_⟩ <;> simp [kd_sI, kd_sJ, kd_sR, kd_sN, ln_sI, ln_sJ, ln_sR, ln_sN, sz_sI, sz_sJ, sz_sR, sz_sN, I_sI, I_sJ, I_sR, I_sN, J_sI, J_sJ, J_sR, J_sN, R_sI, R_sJ, R_sR, R_sN]
theorem nB_xt {v : Int64} {cc : Int32} (hf : t_kd h (t_sz h) = 0) : Xt h (nB h v cc) := ((((((Xt.rf.N hf).J hf).J hf).I hf).I hf).I hf).R hf
theorem nB_ld {mo : Nat} {v : Int64} {cc : Int32} (H : LDp mo h) : LDp mo (nB h v cc) := (LDp.N (kd := 4) (n := 0) H : LDp mo (s_N h 4 0))
theorem nB_WH {v : Int64} {g : Nat} (hg : g < 2) : WH (nB h v (nI g)) g (t_sz h) [(v, 0)] := by
  unfold nB WH
  refine ⟨?_, ?_, ?_, ?_, ?_, fun _ => ?_, fun e => absurd rfl e⟩
  · simp [kd_sI, kd_sJ, kd_sR, kd_sN, ln_sI, ln_sJ, ln_sR, ln_sN, sz_sI, sz_sJ, sz_sR, sz_sN, I_sI, I_sJ, I_sR, I_sN, J_sI, J_sJ, J_sR, J_sN, R_sI, R_sJ, R_sR, R_sN]
  · simp [kd_sI, kd_sJ, kd_sR, kd_sN, ln_sI, ln_sJ, ln_sR, ln_sN, sz_sI, sz_sJ, sz_sR, sz_sN, I_sI, I_sJ, I_sR, I_sN, J_sI, J_sJ, J_sR, J_sN, R_sI, R_sJ, R_sR, R_sN]
  · simp [kd_sI, kd_sJ, kd_sR, kd_sN, ln_sI, ln_sJ, ln_sR, ln_sN, sz_sI, sz_sJ, sz_sR, sz_sN, I_sI, I_sJ, I_sR, I_sN, J_sI, J_sJ, J_sR, J_sN, R_sI, R_sJ, R_sR, R_sN]
  · have : (g + [].length (α := BW)) % 2 = g := by simp; omega
    rw [this]; simp [kd_sI, kd_sJ, kd_sR, kd_sN, ln_sI, ln_sJ, ln_sR, ln_sN, sz_sI, sz_sJ, sz_sR, sz_sN, I_sI, I_sJ, I_sR, I_sN, J_sI, J_sJ, J_sR, J_sN, R_sI, R_sJ, R_sR, R_sN]
  · simp [kd_sI, kd_sJ, kd_sR, kd_sN, ln_sI, ln_sJ, ln_sR, ln_sN, sz_sI, sz_sJ, sz_sR, sz_sN, I_sI, I_sJ, I_sR, I_sN, J_sI, J_sJ, J_sR, J_sN, R_sI, R_sJ, R_sR, R_sN]; rfl
  · simp [kd_sI, kd_sJ, kd_sR, kd_sN, ln_sI, ln_sJ, ln_sR, ln_sN, sz_sI, sz_sJ, sz_sR, sz_sN, I_sI, I_sJ, I_sR, I_sN, J_sI, J_sJ, J_sR, J_sN, R_sI, R_sJ, R_sR, R_sN]
theorem nB_4 {v : Int64} {cc : Int32} : t_I (nB h v cc) (t_sz h) 4 = 0 := by unfold nB; simp [kd_sI, kd_sJ, kd_sR, kd_sN, ln_sI, ln_sJ, ln_sR, ln_sN, sz_sI, sz_sJ, sz_sR, sz_sN, I_sI, I_sJ, I_sR, I_sN, J_sI, J_sJ, J_sR, J_sN, R_sI, R_sJ, R_sR, R_sN]
theorem lbc_00 {k : Nat} (hk : k < 49) : lbc (0, 0) k = 0 := by
  unfold lbc stn
  have h0 : inA 0 := fun i _ => bt_0 i
  have e : (if bt (0 : Int64) k = true then (0 : Int64) else 0) = 0 := by split <;> rfl
  show cnt (fr (fl (pt k) (if bt (0 : Int64) k = true then (0 : Int64) else 0)) 0 0) = 0
  rw [e, fl_none h0 (by omega) (bt_0 k), fr_0]
  exact cnt_0
/-- the class makes a game -/
theorem init_X3 {mo : Nat} {x y hc : Nat} (hld : LDp mo h) (hx : x < 8) (hy : y < 8) (hc5 : hc < 5) : 
    ∃ h2, fX3_init (s_N h 3 0) (t_sz h) a b (nI (100 * x + 10 * y + hc)) c5 k1 k2 = some h2 ∧ Xt h h2 ∧ LDp mo h2 ∧ t_kd h2 (t_sz h) = 3 ∧ t_I h2 (t_sz h) 0 = a ∧ t_I h2 (t_sz h) 1 = b ∧ t_I h2 (t_sz h) 2 = nI (100 * x + 10 * y + hc) ∧ t_I h2 (t_sz h) 3 = c5 ∧ t_I h2 (t_sz h) 8 = 0 ∧ t_I h2 (t_sz h) 9 = 0 ∧
      t_R h2 (t_sz h) 4 = k1 ∧ t_R h2 (t_sz h) 5 = k2 ∧ t_R h2 (t_sz h) 7 = some (t_sz h + 1) ∧ t_R h2 (t_sz h) 6 = some (t_sz h + 2) ∧ t_kd h2 (t_sz h + 1) = 9 ∧ t_ln h2 (t_sz h + 1) = 49 ∧ (∀ k, k < 49 → t_I h2 (t_sz h + 1) k = nI (lbc (stB hc, 0) k)) ∧ WH h2 (if hc ≤ 1 then 0 else 1) (t_sz h + 2) [(stB hc, 0)] ∧ t_I h2 (t_sz h + 2) 4 = 0 := by
  have hz0 := hld.z
  have hz1 : t_kd h (t_sz h + 1) = 0 := hld.2.2 _ (by omega)
  have hz2 : t_kd h (t_sz h + 2) = 0 := hld.2.2 _ (by omega)
  unfold fX3_init
  rw [if_pos (by rw [kd_sN, kd_sN, if_neg (show ¬ t_sz h = t_sz (s_N h 3 0) by rw [sz_sN]; omega), if_pos rfl])]
  have e10 : nI (100 * x + 10 * y + hc) - nI (100 * x + 10 * y + hc) / 10 * 10 = nI hc := by
    rw [i32_10, pk_rem (by omega) (by omega) (by omega)]; congr 1; omega
  rw [e10]
  show ∃ h2, ((fX4_beginning (nM h a b (nI (100 * x + 10 * y + hc)) c5 k1 k2) (nI hc)).bind fun q2 => _) = some h2 ∧ _
  have hxt := nM_xt (a := a) (b := b) (pr := nI (100 * x + 10 * y + hc)) (c5 := c5) (k1 := k1) (k2 := k2) hz0 hz1
  have hldM := nM_ld (a := a) (b := b) (pr := nI (100 * x + 10 * y + hc)) (c5 := c5) (k1 := k1) (k2 := k2) hld
  have kd := fun (q : Nat) => nM_kd (h := h) (a := a) (b := b) (pr := nI (100 * x + 10 * y + hc)) (c5 := c5) (k1 := k1) (k2 := k2) (q := q)
  have ln := fun (q : Nat) => nM_ln (h := h) (a := a) (b := b) (pr := nI (100 * x + 10 * y + hc)) (c5 := c5) (k1 := k1) (k2 := k2) (q := q)
  have sz := nM_sz (h := h) (a := a) (b := b) (pr := nI (100 * x + 10 * y + hc)) (c5 := c5) (k1 := k1) (k2 := k2)
  obtain ⟨i0, i1, i2, i3, i8, i9, ik⟩ := nM_I (h := h) (a := a) (b := b) (pr := nI (100 * x + 10 * y + hc)) (c5 := c5) (k1 := k1) (k2 := k2)
  obtain ⟨r4, r5, r7⟩ := nM_R (h := h) (a := a) (b := b) (pr := nI (100 * x + 10 * y + hc)) (c5 := c5) (k1 := k1) (k2 := k2)
  generalize nM h a b (nI (100 * x + 10 * y + hc)) c5 k1 k2 = hm at hxt hldM kd ln sz i0 i1 i2 i3 i8 i9 ik r4 r5 r7 ⊢
  rw [beginning_X4 hc5, Option.bind_some, sz]
  dsimp only
  have hg2 : (if hc ≤ 1 then (0 : Int32) else 1) = nI (if hc ≤ 1 then 0 else 1) := by split <;> rfl
  rw [hg2]
  have hgl : (if hc ≤ 1 then 0 else 1) < 2 := by split <;> omega
  have hmz : t_kd hm (t_sz hm) = 0 := hldM.z
  have xB := nB_xt (h := hm) (v := stB hc) (cc := nI (if hc ≤ 1 then 0 else 1)) hmz
  have lB := nB_ld (h := hm) (v := stB hc) (cc := nI (if hc ≤ 1 then 0 else 1)) hldM
  have wB := nB_WH (h := hm) (v := stB hc) hgl
  have b4 := nB_4 (h := hm) (v := stB hc) (cc := nI (if hc ≤ 1 then 0 else 1))
  rw [sz] at wB b4
  generalize nB hm (stB hc) (nI (if hc ≤ 1 then 0 else 1)) = hb at xB lB wB b4 ⊢
  have k3 : t_kd hm (t_sz h) = 3 := by rw [kd, if_neg (by omega), if_pos rfl]
  have k9 : t_kd hm (t_sz h + 1) = 9 := by rw [kd, if_pos rfl]
  have l49 : t_ln hm (t_sz h + 1) = 49 := by rw [ln, if_pos rfl]
  have kb3 := xB.1.kd k3
  have kb9 := xB.1.kd k9
  have lb49 := xB.1.ln k9 l49
  have bI : ∀ j, t_I hb (t_sz h) j = t_I hm (t_sz h) j := fun j => by rw [(xB.2 _ (by omega)).1]
  have bI1 : ∀ j, t_I hb (t_sz h + 1) j = t_I hm (t_sz h + 1) j := fun j => by rw [(xB.2 _ (by omega)).1]
  have bR : ∀ j, t_R hb (t_sz h) j = t_R hm (t_sz h) j := fun j => by rw [(xB.2 _ (by omega)).2]
  have hzz : t_sz h ≠ t_sz h + 2 := by omega
  have eR6 : t_R (s_R hb (t_sz h) 6 (some (t_sz h + 2))) (t_sz h) 6 = some (t_sz h + 2) := by rw [R_sR, if_pos ⟨rfl, rfl⟩]
  rw [if_pos kb3, eR6, Option.bind_some, kd_sR, if_pos wB.1]
  have hst : fX4_stones (s_R hb (t_sz h) 6 (some (t_sz h + 2))) (t_sz h + 2) = some ((stB hc, (0 : Int64)).1 ||| (stB hc, (0 : Int64)).2) := stones_X4 (by rw [kd_sR]; exact wB.1) (by rw [J_sR]; exact wB.2.1) (by rw [J_sR]; exact wB.2.2.1)
  rw [hst, Option.bind_some]
  have hok : OKB (stB hc, 0) := stB_ok
  have h00 : OKB ((0 : Int64), (0 : Int64)) := ⟨fun i _ => bt_0 i, fun i _ => bt_0 i, fun i q => by rw [bt_0] at q; cases q⟩
  have hT : inA ((stB hc, (0 : Int64)).1 ||| (stB hc, (0 : Int64)).2) := fun i hi => by rw [bt_or, hok.1 i hi, hok.2.1 i hi]; rfl
  obtain ⟨h2, w1, w2, w3⟩ := keepLib_X3 (p := t_sz h) (q := t_sz h + 2) (h := s_R hb (t_sz h) 6 (some (t_sz h + 2))) h00 hok hT (fun i hi => by
    rw [bt_or, Bool.or_eq_false_iff] at hi
    rw [bt_0, hi.1]; exact ⟨rfl, rfl⟩) (by rw [kd_sR]; exact kb3) (by rw [R_sR, if_neg (by omega), bR]; exact r7) (by rw [kd_sR]; exact kb9) (by rw [ln_sR]; exact lb49) eR6 (by rw [kd_sR]; exact wB.1) (by rw [J_sR]; exact wB.2.1) (by rw [J_sR]; exact wB.2.2.1) (fun k hk => by rw [I_sR, bI1, ik, lbc_00 hk]; rfl)
  rw [w1, Option.bind_some]
  have XE : Xt h (s_R hb (t_sz h) 6 (some (t_sz h + 2))) := (hxt.tr xB).R hz0
  have hne : ∀ q, t_kd h q ≠ 0 → q ≠ t_sz h + 1 := fun q hq e => hq (by rw [e]; exact hz1)
  have X2 : Xt h h2 := by
    refine ⟨⟨by rw [w2.1]; exact XE.1.1, fun q hq => ?_⟩, fun q hq => ?_⟩
    · rw [w2.2.1, w2.2.2.1, w2.2.2.2.1, w2.2.2.2.2.1, w2.2.2.2.2.2.1 q (hne q hq)]; exact XE.1.2 q hq
    · rw [w2.2.2.2.2.1, w2.2.2.2.2.2.1 q (hne q hq)]; exact XE.2 q hq
  have L2 : LDp mo h2 := by
    have := LDp.R (a := t_sz h) (k := 6) (v := some (t_sz h + 2)) lB
    unfold LDp at *; rw [w2.1, w2.2.1]; exact this
  have A : Bx hb h2 := by
    refine (Bx.rf.R (a := t_sz h) (k := 6) (v := some (t_sz h + 2)) (Or.inr (Or.inr (Or.inr ⟨kb3, rfl⟩)))).tr ?_
    refine ⟨by rw [w2.1]; exact Nat.le_refl _, fun b' hb' => ?_⟩
    rw [w2.2.1, w2.2.2.1, w2.2.2.2.1, w2.2.2.2.2.1]
    by_cases e : b' = t_sz h + 1
    · subst e
      have k9' : t_kd (s_R hb (t_sz h) 6 (some (t_sz h + 2))) (t_sz h + 1) = 9 := by rw [kd_sR]; exact kb9
      exact ⟨rfl, rfl, fun q => by omega, fun _ => rfl, fun q => by omega, fun q => by omega, fun q => by omega⟩
    · rw [w2.2.2.2.2.2.1 b' e]
      exact ⟨rfl, rfl, fun _ => ⟨rfl, rfl, rfl⟩, fun _ => rfl, fun _ => ⟨fun _ _ => rfl, rfl, rfl, rfl⟩, fun _ => ⟨rfl, fun _ _ => rfl⟩, fun _ => rfl⟩
  have wI : ∀ j, t_I h2 (t_sz h) j = t_I hm (t_sz h) j := fun j => by rw [w2.2.2.2.2.2.1 _ (by omega), I_sR, bI]
  have wR : ∀ j, j ≠ 6 → t_R h2 (t_sz h) j = t_R hm (t_sz h) j := fun j hj => by rw [w2.2.2.2.2.1, R_sR, if_neg (fun q => hj q.2), bR]
  refine ⟨h2, rfl, X2, L2, by rw [w2.2.1, kd_sR]; exact kb3, by rw [wI]; exact i0, by rw [wI]; exact i1, by rw [wI]; exact i2, by rw [wI]; exact i3, by rw [wI]; exact i8, by rw [wI]; exact i9, by rw [wR 4 (by omega)]; exact r4, by rw [wR 5 (by omega)]; exact r5, by rw [wR 7 (by omega)]; exact r7, by rw [w2.2.2.2.2.1]; exact eR6, by rw [w2.2.1, kd_sR]; exact kb9, by rw [w2.2.2.1, ln_sR]; exact lb49, w3, WH.bx A _ _ wB, ?_⟩
  rw [w2.2.2.2.2.2.1 _ (by omega), I_sR]; exact b4
end NM2
/-! PURE 33: the reference's new game. -/
theorem keeps_g {S : MS} {P : Nat} {v w : Int64} {d : Int32} (h21 : m_i S 21 = nI P) (hP : P < 4096) : fX9_keeps S v w d = some (nI P, ms_i (ms_I (ms_J (ms_J S 18 P v) 19 P w) 20 P d) 21 (nI (P + 1))) := by
  have hx := xin_nI (k := P) (n := 4096) hP (by omega)
  have hc := clp (k := P) (by omega)
  have e1 : m_i (ms_J S 18 P v) 21 = nI P := h21
  have e2 : m_i (ms_J (ms_J S 18 P v) 19 P w) 21 = nI P := h21
  have e3 : m_i (ms_I (ms_J (ms_J S 18 P v) 19 P w) 20 P d) 21 = nI P := h21
  have e4 : m_i (ms_i (ms_I (ms_J (ms_J S 18 P v) 19 P w) 20 P d) 21 (nI (P + 1))) 21 = nI (P + 1) := by rw [mi_i, if_pos rfl]
  unfold fX9_keeps
  rw [h21, if_pos hx, hc, e1, if_pos hx, hc, Option.bind_some, e2, if_pos hx, hc, e3, nI_1, Option.bind_some, e4, nI_pred]
/-- the reference's state behind a new game -/
def gW (S : MS) (G : Nat) (a b bl wh hd e : Int32) : MS := ms_I (ms_I (ms_I (ms_I (ms_I (ms_I S 3 G a) 4 G b) 5 G bl) 6 G wh) 7 G hd) 10 G e
def gK (W : MS) (G P : Nat) (v : Int64) (a5 : Int32) : MS := ms_I (ms_I (ms_i (ms_I (ms_J (ms_J W 18 P v) 19 P 0) 20 P (-1)) 21 (nI (P + 1))) 11 G (nI P)) 16 G a5
def gC (W : MS) (G : Nat) (a3 a4 : Int32) : MS := ms_i (ms_I (ms_I (ms_I (ms_I W 14 (2 * G) a3) 15 (2 * G) a4) 14 (2 * G + 1) a3) 15 (2 * G + 1) a4) 4 (nI (G + 1))
theorem game_250 {W : MS} {G : Nat} {a3 a4 : Int32} (h4 : m_i W 4 = nI G) (hG : G < 16) : fX9_game_250 FU W a3 a4 0 = some (nI G, gC W G a3 a4) := by
  obtain ⟨fu, hfu⟩ : ∃ j, FU = j + 1 + 1 + 1 := ⟨999999999999999999999999999999999999999999999999999999999997, rfl⟩
  have i2 : (2 : Int32) = nI 2 := by decide
  have st : ∀ (fu k : Nat) (V : MS), k < 2 → m_i V 4 = nI G → fX9_game_250 (fu + 1) V a3 a4 (nI k) = fX9_game_250 fu (ms_I (ms_I V 14 (2 * G + k) a3) 15 (2 * G + k) a4) a3 a4 (nI (k + 1)) := fun fu k V hk hV => by
    have e1 : m_i (ms_I V 14 (2 * G + k) a3) 4 = nI G := hV
    rw [fX9_game_250, i2, if_neg (nI_ge hk (by omega)), hV, pk_mul, nI_add, if_pos (xin_nI (by omega) (by omega)), clp (show 2 * G + k < 2 ^ 31 by omega), e1, pk_mul, nI_add, if_pos (xin_nI (by omega) (by omega)), clp (show 2 * G + k < 2 ^ 31 by omega), Option.bind_some, nI_1]
  have e2 : m_i (ms_I (ms_I (ms_I (ms_I W 14 (2 * G + 0) a3) 15 (2 * G + 0) a4) 14 (2 * G + 1) a3) 15 (2 * G + 1) a4) 4 = nI G := h4
  have e3 : m_i (ms_i (ms_I (ms_I (ms_I (ms_I W 14 (2 * G + 0) a3) 15 (2 * G + 0) a4) 14 (2 * G + 1) a3) 15 (2 * G + 1) a4) 4 (nI (G + 1))) 4 = nI (G + 1) := by rw [mi_i, if_pos rfl]
  rw [hfu, show (0 : Int32) = nI 0 by decide, st (fu + 1 + 1) 0 W (by omega) h4, show nI (0 + 1) = nI 1 from rfl, st (fu + 1) 1 (ms_I (ms_I W 14 (2 * G + 0) a3) 15 (2 * G + 0) a4) (by omega) h4, show nI (1 + 1) = nI 2 from rfl, fX9_game_250, i2, if_pos (nI_le (Nat.le_refl 2) (by omega)), e2, nI_1, e3, nI_pred]
  rfl
theorem game_116 {S : MS} {G P a b e hc : Nat} {bl wh a3 a4 a5 : Int32} (hG : G < 16) (hP : P < 4096) (h4 : m_i S 4 = nI G) (h19 : m_i S 19 = nI e) (h21 : m_i S 21 = nI P) (hc5 : hc < 5)
    (hb : ∀ W : MS, m_I W 1 = m_I S 1 → fX9_blackOf W (nI a) (nI b) = some bl) (hw : nI a + nI b - bl = wh) (hh : ∀ W : MS, m_I W 1 = m_I S 1 → fX9_handicapOf W (nI a) (nI b) = some (nI hc)) :
    fX9_game_116 S (nI a) (nI b) a3 a4 a5 0 = some (nI G, gC (gK (gW (ms_i S 47 0) G (nI a) (nI b) bl wh (nI hc) (nI e)) G P (stB hc) a5) G a3 a4) := by
  have hx := xin_nI (k := G) (n := 16) hG (by omega)
  have hc' := clp (k := G) (by omega)
  have f4 : m_i (ms_i S 47 0) 4 = nI G := by rw [mi_i, if_neg (by omega)]; exact h4
  have f19 : m_i (ms_i S 47 0) 19 = nI e := by rw [mi_i, if_neg (by omega)]; exact h19
  have f21 : m_i (ms_i S 47 0) 21 = nI P := by rw [mi_i, if_neg (by omega)]; exact h21
  have f1 : m_I (ms_i S 47 0) 1 = m_I S 1 := rfl
  unfold fX9_game_116
  rw [fails_0, Option.bind_some]
  dsimp only
  generalize ms_i S 47 0 = T at f4 f19 f21 f1 ⊢
  have e1 : m_i (ms_I T 3 G (nI a)) 4 = nI G := f4
  have e2 : m_i (ms_I (ms_I T 3 G (nI a)) 4 G (nI b)) 4 = nI G := f4
  have e3 : m_i (ms_I (ms_I (ms_I T 3 G (nI a)) 4 G (nI b)) 5 G bl) 4 = nI G := f4
  have e3b : m_I (ms_I (ms_I (ms_I T 3 G (nI a)) 4 G (nI b)) 5 G bl) 5 G = bl := by rw [mI_I, if_pos ⟨rfl, rfl⟩]
  have e4 : m_i (ms_I (ms_I (ms_I (ms_I T 3 G (nI a)) 4 G (nI b)) 5 G bl) 6 G wh) 4 = nI G := f4
  have e5 : m_i (ms_I (ms_I (ms_I (ms_I (ms_I T 3 G (nI a)) 4 G (nI b)) 5 G bl) 6 G wh) 7 G (nI hc)) 4 = nI G := f4
  have e5b : m_i (ms_I (ms_I (ms_I (ms_I (ms_I T 3 G (nI a)) 4 G (nI b)) 5 G bl) 6 G wh) 7 G (nI hc)) 19 = nI e := f19
  have e6 : m_i (gW T G (nI a) (nI b) bl wh (nI hc) (nI e)) 4 = nI G := f4
  have e6b : m_I (gW T G (nI a) (nI b) bl wh (nI hc) (nI e)) 7 G = nI hc := by unfold gW; rw [mI_I, if_neg (by omega), mI_I, if_pos ⟨rfl, rfl⟩]
  have e6c : m_i (gW T G (nI a) (nI b) bl wh (nI hc) (nI e)) 21 = nI P := f21
  have g1 : m_I (ms_I (ms_I T 3 G (nI a)) 4 G (nI b)) 1 = m_I S 1 := by funext j; rw [mI_I, if_neg (by omega), mI_I, if_neg (by omega), f1]
  have g2 : m_I (ms_I (ms_I (ms_I (ms_I T 3 G (nI a)) 4 G (nI b)) 5 G bl) 6 G wh) 1 = m_I S 1 := by funext j; rw [mI_I, if_neg (by omega), mI_I, if_neg (by omega), g1]
  rw [if_pos rfl, f4, if_pos hx, hc', e1, if_pos hx, hc', Option.bind_some, hb _ g1, Option.bind_some, e2, if_pos hx, hc', e3, if_pos hx, hc', e3b, hw, Option.bind_some, hh _ g2, Option.bind_some, e4, if_pos hx, hc', e5, if_pos hx, hc', e5b, Option.bind_some]
  change (if xin (m_i (gW T G (nI a) (nI b) bl wh (nI hc) (nI e)) 4) 16 = true then (fX9_stones (m_I (gW T G (nI a) (nI b) bl wh (nI hc) (nI e)) 7 (m_i (gW T G (nI a) (nI b) bl wh (nI hc) (nI e)) 4).toNatClampNeg)).bind fun q15 => (fX9_keeps (gW T G (nI a) (nI b) bl wh (nI hc) (nI e)) q15 (0 : Int64) (-1 : Int32)).bind fun q16 => (if xin (m_i (ms_I q16.2 11 (m_i (gW T G (nI a) (nI b) bl wh (nI hc) (nI e)) 4).toNatClampNeg q16.1) 4) 16 = true then (some (ms_I (ms_I q16.2 11 (m_i (gW T G (nI a) (nI b) bl wh (nI hc) (nI e)) 4).toNatClampNeg q16.1) 16 (m_i (ms_I q16.2 11 (m_i (gW T G (nI a) (nI b) bl wh (nI hc) (nI e)) 4).toNatClampNeg q16.1) 4).toNatClampNeg a5)).bind fun W18 => fX9_game_250 FU W18 a3 a4 (0 : Int32) else none) else none) = _
  generalize gW T G (nI a) (nI b) bl wh (nI hc) (nI e) = W at e6 e6b e6c ⊢
  have e7 : m_i (ms_I (ms_i (ms_I (ms_J (ms_J W 18 P (stB hc)) 19 P 0) 20 P (-1)) 21 (nI (P + 1))) 11 G (nI P)) 4 = nI G := by
    rw [mi_I, mi_i, if_neg (by omega), mi_I, mi_J, mi_J]; exact e6
  have e8 : m_i (gK W G P (stB hc) a5) 4 = nI G := by unfold gK; rw [mi_I]; exact e7
  rw [e6, if_pos hx, hc', e6b, stones_X9 hc hc5, Option.bind_some, keeps_g e6c hP, Option.bind_some]
  dsimp only
  rw [e7, if_pos hx, hc', Option.bind_some]
  exact game_250 e8 hG
