/-! PURE 30: a game begins: who is busy, the stones of the handicap. -/
/-- player a plays one of the games from i on, d of them -/
def bz (S : MS) (a : Nat) : Nat → Nat → Bool
  | _, 0 => false
  | i, d + 1 => (decide (m_I S 8 i = 0) && (decide (m_I S 3 i = nI a) || decide (m_I S 4 i = nI a))) || bz S a (i + 1) d
theorem bz_s {S : MS} {a i d : Nat} : bz S a i (d + 1) = ((decide (m_I S 8 i = 0) && (decide (m_I S 3 i = nI a) || decide (m_I S 4 i = nI a))) || bz S a (i + 1) d) := rfl
section GAME0
variable {u mo : Nat} {h : TH} {S : MS} {t c s n G N P : Nat} {gm nd : Nat → Nat} {gl nl : Nat → List BW} {ol : List Nat} {kp : Nat → Bool}
theorem plays_4 {a : Nat} (hG : G ≤ 16) (h4 : m_i S 4 = nI G) : ∀ (d fu i : Nat) (b : Bool), i + d = G → d < fu → fX9_plays_4 fu S (nI a) (bi b) (nI i) = some (b || bz S a i d) := by
  intro d
  induction d with
  | zero =>
    intro fu i b hi hf
    obtain ⟨fu, rfl⟩ : ∃ j, fu = j + 1 := ⟨fu - 1, by omega⟩
    rw [fX9_plays_4, h4, if_pos (nI_le (by omega) (by omega)), xbool_bi]
    cases b <;> rfl
  | succ d ih =>
    intro fu i b hi hf
    obtain ⟨fu, rfl⟩ : ∃ j, fu = j + 1 := ⟨fu - 1, by omega⟩
    have nx : ∀ b2 : Bool, fX9_plays_50 (fX9_plays_4 fu) S (nI a) (nI i) (bi b2) = some (b2 || bz S a (i + 1) d) := fun b2 => by
      unfold fX9_plays_50; rw [nI_1]; exact ih fu (i + 1) b2 (by omega) (by omega)
    have nt : fX9_plays_50 (fX9_plays_4 fu) S (nI a) (nI i) 1 = some (true || bz S a (i + 1) d) := nx true
    have nf : fX9_plays_50 (fX9_plays_4 fu) S (nI a) (nI i) 0 = some (false || bz S a (i + 1) d) := nx false
    rw [fX9_plays_4, h4, if_neg (nI_ge (by omega) (by omega)), bz_s, nt, nf]
    cases b
    · rw [if_pos bi0, if_pos (xin_nI (show i < 16 by omega) (by omega)), clp (show i < 2 ^ 31 by omega)]
      by_cases e8 : m_I S 8 i = 0
      · rw [if_pos e8, decide_eq_true e8]
        by_cases e3 : m_I S 3 i = nI a
        · rw [if_pos e3, decide_eq_true e3]; rfl
        · rw [if_neg e3, decide_eq_false e3]
          by_cases e4 : m_I S 4 i = nI a
          · rw [if_pos e4, decide_eq_true e4]; rfl
          · rw [if_neg e4, decide_eq_false e4]; rfl
      · rw [if_neg e8, decide_eq_false e8]; rfl
    · rw [if_neg bi1]; rfl
theorem plays_X9 (H : Rel u mo h S t c s n G N P gm nd gl nl ol kp) (a : Nat) : fX9_plays S (nI a) = some (bz S a 0 G) := by
  have h16 := H.G16
  unfold fX9_plays
  exact plays_4 h16 H.2.2.1.2.2.1 G FU 0 false (by omega) (by unfold FU; omega)
theorem isBusy_2 (H : Rel u mo h S t c s n G N P gm nd gl nl ol kp) (a : Nat) : ∀ (d fu i : Nat), i + d = 16 → d < fu → fX2_isBusy_2 fu h c (nI a) (nI i) = some (bz S a i (G - i)) := by
  have h16 := H.G16
  have hrow := H.2.2.1.2.2.2.1
  intro d
  induction d with
  | zero =>
    intro fu i hi hf
    obtain ⟨fu, rfl⟩ : ∃ j, fu = j + 1 := ⟨fu - 1, by omega⟩
    rw [fX2_isBusy_2, if_pos H.cb.1, H.cb.2.2.1.1, Option.bind_some, if_pos H.cb.2.2.1.2.1, H.cb.2.2.1.2.2, if_pos (nI_le (by omega) (by omega)), show G - i = 0 by omega]
    rfl
  | succ d ih =>
    intro fu i hi hf
    obtain ⟨fu, rfl⟩ : ∃ j, fu = j + 1 := ⟨fu - 1, by omega⟩
    have nx := ih fu (i + 1) (by omega) (by omega)
    rw [fX2_isBusy_2, if_pos H.cb.1, H.cb.2.2.1.1, Option.bind_some, if_pos H.cb.2.2.1.2.1, H.cb.2.2.1.2.2, if_neg (nI_ge (by omega) (by omega)), if_pos (xin_nI (by omega) (by omega)), clp (by omega), hrow i (by omega)]
    unfold fX2_isBusy_39
    rw [nI_1, nx]
    by_cases hG : i < G
    · have hM := H.gM hG
      have hk := hM.k3
      rw [if_pos hG, if_neg (by simp), Option.bind_some, if_pos hk]
      unfold fX3_goesOn fX3_isPlayedBy
      rw [if_pos hk, hM.2.1.2.2.1, if_pos hk, hM.2.2.2.1, hM.2.2.2.2.1, show G - i = (G - (i + 1)) + 1 by omega, bz_s]
      by_cases e8 : m_I S 8 i = 0
      · rw [if_pos e8, decide_eq_true e8, Option.bind_some, if_neg tf]
        by_cases e3 : m_I S 3 i = nI a
        · rw [if_pos e3, decide_eq_true e3, Option.bind_some, if_neg tf]; rfl
        · rw [if_neg e3, decide_eq_false e3]
          by_cases e4 : m_I S 4 i = nI a
          · rw [if_pos e4, decide_eq_true e4, Option.bind_some, if_neg tf]; rfl
          · rw [if_neg e4, decide_eq_false e4, Option.bind_some, if_pos rfl]; rfl
      · rw [if_neg e8, decide_eq_false e8, Option.bind_some, if_pos rfl]; rfl
    · rw [if_neg hG, if_pos rfl, show G - i = 0 by omega, show G - (i + 1) = 0 by omega]; rfl
theorem isBusy_X2 (H : Rel u mo h S t c s n G N P gm nd gl nl ol kp) (a : Nat) : fX2_isBusy h c (nI a) = some (bz S a 0 G) := isBusy_2 H a 16 FU 0 (by omega) (by unfold FU; omega)
/-- the stones of a handicap -/
def stB (k : Nat) : Int64 := if k ≤ 1 then 0 else if k = 2 then 4295032832 else if k = 3 then 4295294976 else 5369036800
theorem stones_X9 : ∀ k, k < 5 → fX9_stones (nI k) = some (stB k) := by decide +kernel
theorem stB_ok {k : Nat} : OKB (stB k, 0) := by
  unfold stB
  have : ∀ v ∈ [(0 : Int64), 4295032832, 4295294976, 5369036800], ∀ i, i < 64 → (49 ≤ i → bt v i = false) := by decide +kernel
  refine ⟨fun i hi => ?_, fun i _ => bt_0 i, fun i _ q => by rw [bt_0] at q; cases q⟩
  by_cases hi2 : i < 64
  · split
    · exact bt_0 i
    · split
      · exact this _ (by simp) i hi2 hi
      · split
        · exact this _ (by simp) i hi2 hi
        · exact this _ (by simp) i hi2 hi
  · exact bt_big (by omega)
/-- a first position -/
def nB (h : TH) (b : Int64) (cc : Int32) : TH := s_R (s_I (s_I (s_I (s_J (s_J (s_N h 4 0) (t_sz h) 0 b) (t_sz h) 1 0) (t_sz h) 2 cc) (t_sz h) 3 0) (t_sz h) 4 0) (t_sz h) 5 none
theorem nB_init {h : TH} {b : Int64} {cc : Int32} : fX4_init (s_N h 4 0) (t_sz h) b 0 cc 0 none = some (nB h b cc) := by
  unfold fX4_init fX4_init_37
  simp only [kd_sN, kd_sJ, kd_sI, if_true, Option.bind_some]
  rfl
theorem beginning_X4 {h : TH} {k : Nat} (hk : k < 5) : fX4_beginning h (nI k) = some (some (t_sz h), nB h (stB k) (if k ≤ 1 then 0 else 1)) := by
  obtain ⟨fu, hfu⟩ : ∃ j, FU = j + 1 + 1 + 1 + 1 + 1 := ⟨999999999999999999999999999999999999999999999999999999999995, rfl⟩
  have h51 : ∀ b : Int64, fX4_beginning_51 h b = some (some (t_sz h), nB h b 1) := fun b => by
    unfold fX4_beginning_51; rw [nB_init, Option.bind_some]
  have st : ∀ (fu i : Nat) (b : Int64), i < k → fX4_beginning_22 (fu + 1) h (nI k) b (nI i) = fX4_beginning_22 fu h (nI k) (b ||| (x_shl (1 : Int64) (hpI i))) (nI (i + 1)) := fun fu i b hi => by
    rw [fX4_beginning_22, if_neg (nI_ge hi (by omega)), if_neg (show ¬ (4 : Int32) ≤ nI i from nI_ge (b := 4) (by omega) (by omega)), if_pos (xin_nI (show i < 4 by omega) (by omega)), clp (show i < 2 ^ 31 by omega), nI_1]
  have en : ∀ (fu : Nat) (b : Int64), fX4_beginning_22 (fu + 1) h (nI k) b (nI k) = some (some (t_sz h), nB h b 1) := fun fu b => by
    rw [fX4_beginning_22, if_pos (nI_le (Nat.le_refl _) (by omega)), h51]
  unfold fX4_beginning
  rw [hfu, nB_init, show (0 : Int32) = nI 0 by decide]
  have hk5 : k = 0 ∨ k = 1 ∨ k = 2 ∨ k = 3 ∨ k = 4 := by omega
  rcases hk5 with rfl | rfl | rfl | rfl | rfl
  · rfl
  · rfl
  · rw [if_pos (by decide), st _ 0 _ (by omega), st _ 1 _ (by omega), en]; rfl
  · rw [if_pos (by decide), st _ 0 _ (by omega), st _ 1 _ (by omega), st _ 2 _ (by omega), en]; rfl
  · rw [if_pos (by decide), st _ 0 _ (by omega), st _ 1 _ (by omega), st _ 2 _ (by omega), st _ 3 _ (by omega), en]; rfl
end GAME0
