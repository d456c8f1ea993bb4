/-! P26 3: the law's other small methods: the latest position, who is to move, the clock; a game ends. -/
def lat (L : MS) (g : Nat) : Nat → Nat
  | 0 => 0
  | k + 1 => if m_I L 2 k = nI g then k else lat L g k
theorem lat_ok {L : MS} {g : Nat} : ∀ Q, (∃ k, k < Q ∧ m_I L 2 k = nI g) → lat L g Q < Q ∧ m_I L 2 (lat L g Q) = nI g := by
  intro Q
  induction Q with
  | zero => rintro ⟨k, h, _⟩; omega
  | succ Q ih =>
    rintro ⟨k, hk, h⟩
    unfold lat
    by_cases q : m_I L 2 Q = nI g
    · rw [if_pos q]; exact ⟨by omega, q⟩
    · rw [if_neg q]
      have hk2 : k ≠ Q := fun e => q (by rw [← e]; exact h)
      have := ih ⟨k, by omega, h⟩
      exact ⟨by omega, this.2⟩
theorem lat_lt {L : MS} {g : Nat} : ∀ Q, Q ≤ 64 → lat L g Q < 64 := by
  intro Q
  induction Q with
  | zero => intro _; exact Nat.lt_of_le_of_lt (Nat.le_refl 0) (by omega)
  | succ Q ih =>
    intro h
    unfold lat
    split
    · omega
    · exact ih (by omega)
theorem lat_eq {L L2 : MS} {g : Nat} : ∀ Q, (∀ k, k < Q → m_I L2 2 k = m_I L 2 k) → lat L2 g Q = lat L g Q := by
  intro Q
  induction Q with
  | zero => intro _; rfl
  | succ Q ih =>
    intro h
    unfold lat
    rw [h Q (by omega), ih fun k hk => h k (by omega)]
theorem latest_5 {L : MS} {g Q : Nat} (hQ : Q ≤ 64) (h7 : m_I L 7 2 = nI Q) : ∀ (d fu i : Nat), i + d = Q → d < fu → fL_latest_5 fu L (nI g) (nI (lat L g i)) (nI i) = some (nI (lat L g Q)) := by
  intro d
  induction d with
  | zero =>
    intro fu i hi hf
    obtain ⟨f, rfl⟩ : ∃ f, fu = f + 1 := ⟨fu - 1, by omega⟩
    obtain rfl : i = Q := by omega
    rw [fL_latest_5, show (2 : Int32).toNatClampNeg = 2 by decide, h7, if_pos (nI_le (by omega) (by omega))]
  | succ d ih =>
    intro fu i hi hf
    obtain ⟨f, rfl⟩ : ∃ f, fu = f + 1 := ⟨fu - 1, by omega⟩
    have h2 := ih f (i + 1) (by omega) (by omega)
    rw [fL_latest_5, show (2 : Int32).toNatClampNeg = 2 by decide, h7, if_neg (nI_ge (by omega) (by omega)), if_pos (xin_nI (by omega) (by omega)), clp (by omega)]
    unfold fL_latest_27
    rw [show lat L g (i + 1) = if m_I L 2 i = nI g then i else lat L g i from rfl] at h2
    by_cases q : m_I L 2 i = nI g
    · rw [if_pos q, nI_1]; rw [if_pos q] at h2; exact h2
    · rw [if_neg q, nI_1]; rw [if_neg q] at h2; exact h2
theorem latest_L {L : MS} {g Q : Nat} (hQ : Q ≤ 64) (h7 : m_I L 7 2 = nI Q) : fL_latest L (nI g) = some (nI (lat L g Q)) := latest_5 hQ h7 Q FU 0 (by omega) (FU_lt (by omega))
theorem side_L {L : MS} {g x y hc m : Nat} (hg : g < 16) (hc4 : hc ≤ 4) (hx : x < 8) (hy : y < 8) (hm : m < 5000) (h16 : m_I L 4 (16 + g) = nI (100 * x + 10 * y + hc)) (h6 : m_I L 6 g = nI m) : fL_side L (nI g) = some (nI (((if hc ≤ 1 then 0 else 1) + m) % 2)) := by
  unfold fL_side fL_side_18
  rw [i32_16, nI_add, if_pos (xin_nI (by omega) (by omega)), clp (by omega), h16, i32_10, pk_rem (by omega) (by omega) (by omega), show (100 * x + 10 * y + hc) % 10 = hc by omega, if_pos (xin_nI (by omega) (by omega)), if_pos (xin_nI (by omega) (by omega)), clp (by omega), h6, i32_2]
  by_cases q : hc ≤ 1
  · rw [if_pos (show nI hc ≤ 1 from nI_le (b := 1) q (by omega)), if_pos q, show (0 : Int32) = nI 0 from rfl, nI_add, pk_rem (by omega) (by omega) (by omega)]
  · rw [if_neg (show ¬ nI hc ≤ 1 from nI_ge (b := hc) (a := 1) (by omega) (by omega)), if_neg q, show (1 : Int32) = nI 1 from rfl, nI_add, pk_rem (by omega) (by omega) (by omega)]
/-- what is left of main time and periods behind some seconds; whether the game is lost by that -/
def clkM (M z : Nat) : Nat := M - z
def clkP (M p len z : Nat) : Nat := if z ≤ M then p else p - (z - M - 1) / len
def clkB (M p len z : Nat) : Bool := decide (¬ z ≤ M) && decide (p - (z - M - 1) / len = 0)
theorem div_le {a b : Nat} : a / b ≤ a := Nat.div_le_self a b
theorem runsOut_L {L : MS} {g s M p0 p1 len z : Nat} (hg : g < 16) (hs : s < 2) (hM : M ≤ 3600) (h0 : p0 < 6) (h1 : p1 < 6) (hl : 1 ≤ len) (hl2 : len < 61) (hz : z ≤ 1000)
    (eM : m_I L 5 (16 * s + g) = nI M) (eP : m_I L 5 (32 + g) = nI (10 * p0 + p1)) (eL : m_I L 5 (48 + g) = nI len) :
    ∃ L2, fL_runsOut L (nI g) (nI s) (nI z) = some (clkB M (if s = 0 then p0 else p1) len z, L2) ∧ m_i L2 = m_i L ∧ m_j L2 = m_j L ∧ m_J L2 = m_J L ∧ (∀ j, j ≠ 5 → m_I L2 j = m_I L j) ∧ m_I L2 5 (16 * s + g) = nI (clkM M z) ∧
      m_I L2 5 (32 + g) = nI (10 * (if s = 0 then clkP M p0 len z else p0) + (if s = 0 then p1 else clkP M p1 len z)) ∧ ∀ q, q ≠ 16 * s + g → q ≠ 32 + g → m_I L2 5 q = m_I L 5 q := by
  unfold fL_runsOut
  rw [i32_16, pk_mul, nI_add, if_pos (xin_nI (by omega) (by omega)), clp (by omega), eM]
  by_cases hzM : z ≤ M
  · have e0 : nI z - nI M ≤ 0 := by
      have h := pk_sub_toInt (a := z) (b := M) (by omega) (by omega)
      rw [Int32.le_iff_toInt_le, h]
      show (z : Int) - M ≤ 0
      omega
    have e1 : ¬ (1 : Int32) ≤ nI z - nI M := by
      have h := pk_sub_toInt (a := z) (b := M) (by omega) (by omega)
      rw [Int32.le_iff_toInt_le, h]
      show ¬ (1 : Int) ≤ (z : Int) - M
      omega
    unfold fL_runsOut_34
    rw [if_pos e0, if_pos (xin_nI (by omega) (by omega)), clp (by omega), if_neg e1, pk_sub hzM]
    have hb : clkB M (if s = 0 then p0 else p1) len z = false := by unfold clkB; rw [decide_eq_false (fun h => h hzM)]; rfl
    rw [hb]
    refine ⟨_, rfl, rfl, rfl, rfl, fun j hj => ?_, ?_, ?_, fun q h1 h2 => ?_⟩
    · funext q; rw [mI_I, if_neg (by omega)]
    · rw [mI_I, if_pos ⟨rfl, rfl⟩]; rfl
    · rw [mI_I, if_neg (by omega), eP]
      unfold clkP
      rw [if_pos hzM, if_pos hzM]
      by_cases q : s = 0
      · rw [if_pos q, if_pos q]
      · rw [if_neg q, if_neg q]
    · rw [mI_I, if_neg (by omega)]
  · have e0 : ¬ nI z - nI M ≤ 0 := by
      have h := pk_sub_toInt (a := z) (b := M) (by omega) (by omega)
      rw [Int32.le_iff_toInt_le, h]
      show ¬ (z : Int) - M ≤ 0
      omega
    rw [if_neg e0, pk_sub (by omega)]
    have e1 : (1 : Int32) ≤ nI (z - M) := nI_le (a := 1) (by omega) (by omega)
    have hd := div_le (a := z - M - 1) (b := len)
    unfold fL_runsOut_34
    rw [if_pos (xin_nI (by omega) (by omega)), clp (by omega), if_pos e1]
    have eP' : m_I (ms_I L 5 (16 * s + g) 0) 5 (32 + g) = nI (10 * p0 + p1) := by rw [mI_I, if_neg (by omega)]; exact eP
    have eL' : m_I (ms_I L 5 (16 * s + g) 0) 5 (48 + g) = nI len := by rw [mI_I, if_neg (by omega)]; exact eL
    have key : ∀ (left : Nat), left = (if s = 0 then p0 else p1) → ∃ L2, fL_runsOut_68 (ms_I L 5 (16 * s + g) 0) (nI g) (nI s) (nI (z - M)) (nI left) = some (clkB M (if s = 0 then p0 else p1) len z, L2) ∧ m_i L2 = m_i L ∧ m_j L2 = m_j L ∧ m_J L2 = m_J L ∧ (∀ j, j ≠ 5 → m_I L2 j = m_I L j) ∧ m_I L2 5 (16 * s + g) = nI (clkM M z) ∧
        m_I L2 5 (32 + g) = nI (10 * (if s = 0 then clkP M p0 len z else p0) + (if s = 0 then p1 else clkP M p1 len z)) ∧ ∀ q, q ≠ 16 * s + g → q ≠ 32 + g → m_I L2 5 q = m_I L 5 q := fun left hleft => by
      have hl6 : left < 6 := by rw [hleft]; split <;> assumption
      have h97 : ∀ lost : Nat, lost ≤ left → left - lost = left - (z - M - 1) / len → ∃ L2, fL_runsOut_97 (ms_I L 5 (16 * s + g) 0) (nI g) (nI s) (nI left) (nI lost) = some (clkB M (if s = 0 then p0 else p1) len z, L2) ∧ m_i L2 = m_i L ∧ m_j L2 = m_j L ∧ m_J L2 = m_J L ∧ (∀ j, j ≠ 5 → m_I L2 j = m_I L j) ∧ m_I L2 5 (16 * s + g) = nI (clkM M z) ∧
          m_I L2 5 (32 + g) = nI (10 * (if s = 0 then clkP M p0 len z else p0) + (if s = 0 then p1 else clkP M p1 len z)) ∧ ∀ q, q ≠ 16 * s + g → q ≠ 32 + g → m_I L2 5 q = m_I L 5 q := fun lost hlost hd2 => by
        have hB : clkB M (if s = 0 then p0 else p1) len z = decide (left = lost) := by
          unfold clkB
          rw [decide_eq_true hzM, Bool.true_and, ← hleft]
          exact decide_eq_decide.mpr ⟨fun h => by omega, fun h => by omega⟩
        have fin : ∀ v : Nat, v = 10 * (if s = 0 then clkP M p0 len z else p0) + (if s = 0 then p1 else clkP M p1 len z) → ∀ w : Int32, nI (10 * p0 + p1) - w = nI v → ∃ L2, fL_runsOut_120 (ms_I L 5 (16 * s + g) 0) (nI left) (nI lost) (nI (32 + g)) (nI (10 * p0 + p1)) w = some (clkB M (if s = 0 then p0 else p1) len z, L2) ∧ m_i L2 = m_i L ∧ m_j L2 = m_j L ∧ m_J L2 = m_J L ∧ (∀ j, j ≠ 5 → m_I L2 j = m_I L j) ∧ m_I L2 5 (16 * s + g) = nI (clkM M z) ∧
            m_I L2 5 (32 + g) = nI (10 * (if s = 0 then clkP M p0 len z else p0) + (if s = 0 then p1 else clkP M p1 len z)) ∧ ∀ q, q ≠ 16 * s + g → q ≠ 32 + g → m_I L2 5 q = m_I L 5 q := fun v hv w hw => by
          have fx : ∀ bb : Bool, ∃ L2, some (bb, ms_I (ms_I L 5 (16 * s + g) 0) 5 (32 + g) (nI v)) = some (bb, L2) ∧ m_i L2 = m_i L ∧ m_j L2 = m_j L ∧ m_J L2 = m_J L ∧ (∀ j, j ≠ 5 → m_I L2 j = m_I L j) ∧ m_I L2 5 (16 * s + g) = nI (clkM M z) ∧
            m_I L2 5 (32 + g) = nI (10 * (if s = 0 then clkP M p0 len z else p0) + (if s = 0 then p1 else clkP M p1 len z)) ∧ ∀ q, q ≠ 16 * s + g → q ≠ 32 + g → m_I L2 5 q = m_I L 5 q := fun bb => by
            refine ⟨_, rfl, rfl, rfl, rfl, fun j hj => ?_, ?_, ?_, fun q h1 h2 => ?_⟩
            · funext q; rw [mI_I, if_neg (by omega), mI_I, if_neg (by omega)]
            · rw [mI_I, if_neg (by omega), mI_I, if_pos ⟨rfl, rfl⟩]
              unfold clkM
              rw [show M - z = 0 by omega]; rfl
            · rw [mI_I, if_pos ⟨rfl, rfl⟩, hv]
            · rw [mI_I, if_neg (by omega), mI_I, if_neg (by omega)]
          unfold fL_runsOut_120
          rw [if_pos (xin_nI (by omega) (by omega)), clp (by omega), hw, hB]
          by_cases q : left = lost
          · rw [if_pos (by rw [q]), decide_eq_true q]; exact fx true
          · rw [if_neg (fun e => q ((nI_eq (by omega) (by omega)).mp e)), decide_eq_false q]; exact fx false
        have hP0 : clkP M p0 len z = p0 - (z - M - 1) / len := by unfold clkP; rw [if_neg hzM]
        have hP1 : clkP M p1 len z = p1 - (z - M - 1) / len := by unfold clkP; rw [if_neg hzM]
        unfold fL_runsOut_97
        rw [i32_32, nI_add, if_pos (xin_nI (by omega) (by omega)), clp (by omega), eP', i32_10, pk_mul]
        by_cases q : s = 0
        · rw [if_pos (by rw [q]; rfl)]
          rw [if_pos q] at hleft
          refine fin (10 * (p0 - lost) + p1) ?_ _ ?_
          · rw [if_pos q, if_pos q, hP0]; omega
          · rw [pk_sub (by omega)]; congr 1; omega
        · rw [if_neg (nI_ne0 (by omega) (by omega))]
          rw [if_neg q] at hleft
          refine fin (10 * p0 + (p1 - lost)) ?_ _ ?_
          · rw [if_neg q, if_neg q, hP1]; omega
          · rw [pk_sub (by omega)]; congr 1; omega
      unfold fL_runsOut_68
      rw [i32_48, nI_add, if_pos (xin_nI (by omega) (by omega)), clp (by omega), eL', if_neg (nI_ne0 (by omega) (by omega)), show (1 : Int32) = nI 1 from rfl, pk_sub (by omega), pk_div (by omega) (by omega) (by omega)]
      by_cases q : (z - M - 1) / len ≤ left
      · rw [if_pos (nI_le q (by omega))]; exact h97 _ q rfl
      · rw [if_neg (nI_ge (by omega) (by omega))]; exact h97 left (Nat.le_refl _) (by omega)
    rw [i32_32, nI_add, if_pos (xin_nI (by omega) (by omega)), clp (by omega), eP', i32_10, pk_rem (by omega) (by omega) (by omega), pk_div (by omega) (by omega) (by omega), show (10 * p0 + p1) / 10 = p0 by omega, show (10 * p0 + p1) % 10 = p1 by omega]
    rw [if_pos (xin_nI (by omega) (by omega))]
    by_cases q : s = 0
    · rw [if_pos (by rw [q]; rfl)]; exact key p0 (by rw [if_pos q])
    · rw [if_neg (nI_ne0 (by omega) (by omega))]; exact key p1 (by rw [if_neg q])
/-- a game ends: the law's rows, before ranks are found anew -/
def leW (L : MS) (g E w : Nat) : MS := ms_I (ms_I (ms_I L 4 (32 + g) (nI (w + 1))) 6 (32 + E) (nI g)) 7 3 (nI (E + 1))
theorem ends_L {S L : MS} {n g E w : Nat} {ol : List Nat} (hg : g < 16) (hE : E < 16) (hw : w ≤ 1) (h3 : m_I L 7 3 = nI E) (hK : LK S (leW L g E w) n ol) (hol : ol.length = E + 1) : ∃ L2, fL_ends L (nI g) (nI w) = some L2 ∧ Lp n (leW L g E w) L2 ∧ LRk S L2 n ol := by
  obtain ⟨L2, h1, h2, h3'⟩ := finds_L hK (Nat.le_refl _)
  rw [hol] at h1
  refine ⟨L2, ?_, h2, fun a ha => by rw [h3' a ha, List.take_length]⟩
  have e3 : (3 : Int32).toNatClampNeg = 3 := by decide
  have r1 : m_I (ms_I L 4 (32 + g) (nI (w + 1))) 7 3 = nI E := by rw [mI_I, if_neg (by omega)]; exact h3
  have r2 : m_I (ms_I (ms_I L 4 (32 + g) (nI (w + 1))) 6 (32 + E) (nI g)) 7 3 = nI E := by rw [mI_I, if_neg (by omega)]; exact r1
  have r3 : m_I (leW L g E w) 7 3 = nI (E + 1) := by unfold leW; rw [mI_I, if_pos ⟨rfl, rfl⟩]
  unfold fL_ends
  rw [i32_32, nI_add, if_pos (xin_nI (by omega) (by omega)), clp (by omega), nI_1, e3, r1, nI_add, if_pos (xin_nI (by omega) (by omega)), clp (by omega), Option.bind_some, r2, nI_1, Option.bind_some]
  change ((fL_finds (leW L g E w) (m_I (leW L g E w) 7 3)).bind fun q5 => some q5) = some L2
  rw [r3, h1, Option.bind_some]
