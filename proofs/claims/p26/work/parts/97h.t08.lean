/-! P26 8: a game more. -/
theorem game_e (S : MS) (x y a3 a4 a5 : Int32) : fX9_game_116 S x y a3 a4 a5 1 = some (0, ms_i S 47 1) ∧ fX9_game_116 S x y a3 a4 a5 2 = some (0, ms_i S 47 2) ∧ fX9_game_116 S x y a3 a4 a5 3 = some (0, ms_i S 47 3) := by
  refine ⟨?_, ?_, ?_⟩
  · unfold fX9_game_116; rw [fails_1]; rfl
  · unfold fX9_game_116; rw [fails_2]; rfl
  · unfold fX9_game_116; rw [fails_3]; rfl
/-- are all numbers of a new game in range -/
def rgt (a b m p l : Nat) : Bool := decide (a ≠ b) && (decide (m ≤ 3600) && (decide (p ≤ 5) && decide (1 ≤ l ∧ l ≤ 60)))
section BEGUN
variable {lo : Nat} {h : TH} {S L : MS} {t c s n G N P Q J : Nat} {gm nd : Nat → Nat} {gl nl : Nat → List BW} {ol : List Nat} {kp : Nat → Bool}
variable {Ls : Nat} {xs : Nat → Int32} {K : Int32 → TH → MS → Prop}
theorem isIn_n {x lo hi : Nat} (hx : x < 10000) (hl : lo < 10000) (hh : hi < 10000) : (decide (nI lo ≤ nI x) && decide (nI x ≤ nI hi)) = decide (lo ≤ x ∧ x ≤ hi) := by
  by_cases h1 : lo ≤ x
  · rw [decide_eq_true (nI_le h1 (by omega)), Bool.true_and]
    exact decide_eq_decide.mpr ((nI_leI (by omega) (by omega)).trans ⟨fun h => ⟨h1, h⟩, fun h => h.2⟩)
  · rw [decide_eq_false (nI_ge (by omega) (by omega)), Bool.false_and, decide_eq_false (fun h => h1 h.1)]
theorem game_65 {S : MS} {x y a3 a4 a5 : Int32} (s0 : Int32) : fX9_game_65 S x y a3 a4 a5 0 s0 = fX9_game_116 S x y a3 a4 a5 1 := by unfold fX9_game_65; rw [if_pos rfl]
theorem game_no {S : MS} {x y a3 a4 a5 : Int32} : fX9_game_21 S x y a3 a4 a5 0 = fX9_game_116 S x y a3 a4 a5 1 := by
  unfold fX9_game_21
  rw [isIn_X9, isIn_X9, isIn_X9, Option.bind_some, Option.bind_some, Option.bind_some, game_65, game_65, ite_self, ite_self, ite_self, ite_self]
/-- which way a game's beginning goes in the reference -/
theorem game_9 (H : Rel 16 lo h S t c s n G N P gm nd gl nl ol kp) {a b m p l : Nat} (ha : a < 100) (hb : b < 100) (hm : m < 10000) (hp : p < 100) (hl : l < 100) :
    fX9_game S (nI a) (nI b) (nI m) (nI p) (nI l) = fX9_game_116 S (nI a) (nI b) (nI m) (nI p) (nI l) (if ¬ (a < n ∧ b < n) then 1 else if rgt a b m p l = false then 2 else if bz S a 0 G = false ∧ bz S b 0 G = false ∧ G < 16 then 0 else 3) := by
  have h8 := H.2.1.1
  have h16 := H.G16
  have isn : ∀ x : Nat, x < 100 → isN (nI x) n = decide (x < n) := fun x hx => by
    by_cases q : x < n
    · rw [isN_nI q (by omega), decide_eq_true q]
    · rw [decide_eq_false q]
      unfold isN
      rw [decide_eq_false (nI_nlt (by omega) (by omega)), Bool.and_false]
  unfold fX9_game
  rw [isPlayer_X9 H, Option.bind_some, isPlayer_X9 H, Option.bind_some, isn a ha, isn b hb]
  by_cases q1 : a < n
  · rw [decide_eq_true q1, if_neg tf]
    by_cases q2 : b < n
    · rw [decide_eq_true q2, if_neg tf, if_neg (show ¬ ¬ (a < n ∧ b < n) by omega)]
      unfold fX9_game_21 rgt
      by_cases q3 : a = b
      · subst q3
        rw [if_pos rfl, decide_eq_false (show ¬ a ≠ a by omega), Bool.false_and, if_pos rfl]
        unfold fX9_game_65
        rw [if_neg (by decide), if_pos rfl]
      · rw [if_neg (fun e => q3 ((nI_eq (by omega) (by omega)).mp e)), decide_eq_true q3, Bool.true_and, isIn_X9, Option.bind_some, show (0 : Int32) = nI 0 from rfl, show (3600 : Int32) = nI 3600 from rfl, isIn_n (by omega) (by omega) (by omega)]
        by_cases q4 : m ≤ 3600
        · rw [decide_eq_true (show 0 ≤ m ∧ m ≤ 3600 by omega), if_neg tf, decide_eq_true q4, Bool.true_and, isIn_X9, Option.bind_some, show (5 : Int32) = nI 5 from rfl, isIn_n (by omega) (by omega) (by omega)]
          by_cases q5 : p ≤ 5
          · rw [decide_eq_true (show 0 ≤ p ∧ p ≤ 5 by omega), if_neg tf, decide_eq_true q5, Bool.true_and, isIn_X9, Option.bind_some, show (1 : Int32) = nI 1 from rfl, show (60 : Int32) = nI 60 from rfl, isIn_n (by omega) (by omega) (by omega)]
            by_cases q6 : 1 ≤ l ∧ l ≤ 60
            · rw [decide_eq_true q6, if_neg tf, if_neg tf]
              unfold fX9_game_65
              rw [if_neg (by decide), if_neg (by decide), plays_X9 H, Option.bind_some, plays_X9 H, Option.bind_some, H.2.2.1.2.2.1]
              cases z1 : bz S a 0 G
              · rw [if_pos rfl]
                cases z2 : bz S b 0 G
                · rw [if_pos rfl]
                  by_cases z3 : G = 16
                  · rw [if_pos (by rw [z3]; rfl), if_neg (by omega)]
                  · rw [if_neg (fun e => z3 ((n_eq 16 16 (by decide) (by omega) (by omega)).mp e)), if_pos ⟨rfl, rfl, by omega⟩]; rfl
                · rw [if_neg tf, if_neg (fun e => tf e.2.1)]
              · rw [if_neg tf, if_neg (fun e => tf e.1)]
            · rw [decide_eq_false q6, if_pos rfl, if_pos rfl]
              unfold fX9_game_65
              rw [if_neg (by decide), if_pos nI_0]
          · rw [decide_eq_false (show ¬ (0 ≤ p ∧ p ≤ 5) by omega), if_pos rfl, decide_eq_false q5, Bool.false_and, if_pos rfl]
            unfold fX9_game_65
            rw [if_neg (by decide), if_pos nI_0]
        · rw [decide_eq_false (show ¬ (0 ≤ m ∧ m ≤ 3600) by omega), if_pos rfl, decide_eq_false q4, Bool.false_and, if_pos rfl]
          unfold fX9_game_65
          rw [if_neg (by decide), if_pos nI_0]
    · rw [decide_eq_false q2, if_pos rfl, if_pos (by omega), game_no]
  · rw [decide_eq_false q1, if_pos rfl, if_pos (by omega), game_no]
/-! who is busy -/
theorem begun_88 (H : Rel 16 lo h S t c s n G N P gm nd gl nl ol kp) (T : LT S L J n G ol.length Q N P) {a b : Nat} (ha : a < 100) (hb : b < 100) {m p l w u : Int32} : ∀ (d fu i : Nat), i + d = G → d < fu →
    (gL_isBegun_174 lo t Ls xs K h L (nI a) (nI b) m p l w u (if bz S a i d = false ∧ bz S b i d = false then 1 else 0)) → gL_isBegun_88 lo t Ls xs K fu h L (nI a) (nI b) m p l w u 1 (nI i) := by
  have h16 := H.G16
  have h8 := H.2.1.1
  have hT7 := T.2.2.1
  intro d
  induction d with
  | zero =>
    intro fu i hi hf k
    obtain ⟨f, rfl⟩ : ∃ f, fu = f + 1 := ⟨fu - 1, by omega⟩
    rw [gL_isBegun_88, show (1 : Int32).toNatClampNeg = 1 by decide, hT7.2.1, if_pos (nI_le (by omega) (by omega))]
    rw [if_pos ⟨rfl, rfl⟩] at k
    exact k
  | succ d ih =>
    intro fu i hi hf k
    obtain ⟨f, rfl⟩ : ∃ f, fu = f + 1 := ⟨fu - 1, by omega⟩
    obtain ⟨x, y, x', y', hc, et, v, st, mm, ps, M0, M1, p0, p1, len, ⟨hx, hy, -, -, -, -, -, -, -, hst, -⟩, ⟨s3, s4, -, -, -, -, -, s8, -⟩, l1, l2, l3, -⟩ := gnum H T (show i < G by omega)
    have eb : ∀ z : Nat, z < 100 → bz S z i (d + 1) = ((decide (st = 0) && (decide (x = z) || decide (y = z))) || bz S z (i + 1) d) := fun z hz => by
      rw [bz_s, s8, s3, s4]
      congr 2
      · exact decide_eq_decide.mpr ⟨fun e => by
          rcases Nat.eq_zero_or_pos st with q | q
          · exact q
          · exact absurd e (nI_ne0 q (by omega)), fun e => by rw [e]; rfl⟩
      · congr 1
        · exact decide_eq_decide.mpr (nI_eq (by omega) (by omega))
        · exact decide_eq_decide.mpr (nI_eq (by omega) (by omega))
    rw [eb a ha, eb b hb] at k
    -- a stop: the loop ends at its next turn
    have stop : (gL_isBegun_174 lo t Ls xs K h L (nI a) (nI b) m p l w u 0) → gL_isBegun_166 lo t Ls xs K (gL_isBegun_88 lo t Ls xs K f) h L (nI a) (nI b) m p l w u (nI i) 0 := fun k0 => by
      unfold gL_isBegun_166
      obtain ⟨f', rfl⟩ : ∃ f', f = f' + 1 := ⟨f - 1, by omega⟩
      rw [gL_isBegun_88]
      by_cases q : m_I L 7 (1 : Int32).toNatClampNeg ≤ nI i + 1
      · rw [if_pos q]; exact k0
      · rw [if_neg q, if_pos rfl]; exact k0
    have more : (gL_isBegun_174 lo t Ls xs K h L (nI a) (nI b) m p l w u (if bz S a (i + 1) d = false ∧ bz S b (i + 1) d = false then 1 else 0)) → gL_isBegun_166 lo t Ls xs K (gL_isBegun_88 lo t Ls xs K f) h L (nI a) (nI b) m p l w u (nI i) 1 := fun k0 => by
      unfold gL_isBegun_166
      rw [nI_1]
      exact ih f (i + 1) (by omega) (by omega) k0
    rw [gL_isBegun_88, show (1 : Int32).toNatClampNeg = 1 by decide, hT7.2.1, if_neg (nI_ge (by omega) (by omega)), if_neg (by decide), i32_32, nI_add, clp (by omega), clp (by omega), l1, l3, i32_10, pk_rem (by omega) (by omega) (by omega), pk_div (by omega) (by omega) (by omega), show (10 * x + y) / 10 = x by omega, show (10 * x + y) % 10 = y by omega]
    refine ⟨xin_nI (by omega) (by omega), xin_nI (by omega) (by omega), ?_⟩
    by_cases q0 : st = 0
    · rw [if_neg (by rw [q0]; decide)]
      rw [decide_eq_true q0, Bool.true_and, Bool.true_and] at k
      by_cases q1 : x = a
      · rw [if_pos (by rw [q1])]
        rw [decide_eq_true q1, Bool.true_or, Bool.true_or, if_neg (fun e => tf e.1)] at k
        exact stop k
      · rw [if_neg (fun e => q1 ((nI_eq (by omega) (by omega)).mp e))]
        by_cases q2 : y = a
        · rw [if_pos (by rw [q2])]
          rw [decide_eq_true q2, Bool.or_true, Bool.true_or, if_neg (fun e => tf e.1)] at k
          exact stop k
        · rw [if_neg (fun e => q2 ((nI_eq (by omega) (by omega)).mp e))]
          by_cases q3 : x = b
          · rw [if_pos (by rw [q3])]
            rw [decide_eq_true q3, Bool.true_or, Bool.true_or, if_neg (fun e => tf e.2)] at k
            exact stop k
          · rw [if_neg (fun e => q3 ((nI_eq (by omega) (by omega)).mp e))]
            by_cases q4 : y = b
            · rw [if_pos (by rw [q4])]
              rw [decide_eq_true q4, Bool.or_true, Bool.true_or, if_neg (fun e => tf e.2)] at k
              exact stop k
            · rw [if_neg (fun e => q4 ((nI_eq (by omega) (by omega)).mp e))]
              rw [decide_eq_false q1, decide_eq_false q2, decide_eq_false q3, decide_eq_false q4, Bool.or_false, Bool.false_or, Bool.false_or] at k
              exact more k
    · rw [if_pos (show (0 : Int32) < nI st from nI_lt (a := 0) (by omega) (by omega))]
      rw [decide_eq_false q0, Bool.false_and, Bool.false_and, Bool.false_or, Bool.false_or] at k
      exact more k
/-- the law's rows behind a new game -/
def bg1 (L : MS) (G E ab : Nat) (pv : Int32) : MS := ms_I (ms_I (ms_I (ms_I L 4 G (nI ab)) 4 (16 + G) pv) 4 (32 + G) 0) 4 (48 + G) (nI (2 * E))
def bg2 (L : MS) (G Q m p l : Nat) (st : Int64) : MS := ms_I (ms_I (ms_I (ms_I (ms_I (ms_I (ms_I (ms_J (ms_J L 0 Q st) 1 Q 0) 2 Q (nI G)) 7 2 (nI (Q + 1))) 5 G (nI m)) 5 (16 + G) (nI m)) 5 (32 + G) (nI (11 * p))) 5 (48 + G) (nI l)) 7 1 (nI (G + 1))
theorem bg1_I {L : MS} {G E ab j q : Nat} {pv : Int32} : m_I (bg1 L G E ab pv) j q = if j = 4 ∧ q = 48 + G then nI (2 * E) else if j = 4 ∧ q = 32 + G then 0 else if j = 4 ∧ q = 16 + G then pv else if j = 4 ∧ q = G then nI ab else m_I L j q := by
  unfold bg1; rw [mI_I, mI_I, mI_I, mI_I]
theorem bg2_I {L : MS} {G Q m p l j q : Nat} {st : Int64} : m_I (bg2 L G Q m p l st) j q = if j = 7 ∧ q = 1 then nI (G + 1) else if j = 5 ∧ q = 48 + G then nI l else if j = 5 ∧ q = 32 + G then nI (11 * p) else if j = 5 ∧ q = 16 + G then nI m else if j = 5 ∧ q = G then nI m else if j = 7 ∧ q = 2 then nI (Q + 1) else if j = 2 ∧ q = Q then nI G else m_I L j q := by
  unfold bg2; rw [mI_I, mI_I, mI_I, mI_I, mI_I, mI_I, mI_I, mI_J, mI_J]
theorem bg2_J {L : MS} {G Q m p l j q : Nat} {st : Int64} : m_J (bg2 L G Q m p l st) j q = if j = 1 ∧ q = Q then 0 else if j = 0 ∧ q = Q then st else m_J L j q := by
  unfold bg2; rw [mJ_I, mJ_I, mJ_I, mJ_I, mJ_I, mJ_I, mJ_I, mJ_J, mJ_J]
theorem begun_329 {W : MS} {a9 a10 : Int32} {G Q m p l : Nat} {st : Int64} (hG : G < 16) (hQ : Q < 64) (hp : p < 100) (h72 : m_I W 7 2 = nI Q) (h71 : m_I W 7 1 = nI G) (k : gL_isBegun_401 lo t Ls xs K h (bg2 W G Q m p l st) a9 a10 (nI m) (nI p) (nI l) (nI G)) : gL_isBegun_329 lo t Ls xs K h W a9 a10 (nI m) (nI p) (nI l) (nI G) (nI Q) st := by
  have e2 : (2 : Int32).toNatClampNeg = 2 := by decide
  have e1 : (1 : Int32).toNatClampNeg = 1 := by decide
  have cQ : (nI Q).toNatClampNeg = Q := clp (by omega)
  have xQ : xin (nI Q) 64 = true := xin_nI hQ (by omega)
  unfold gL_isBegun_329
  rw [cQ, e2, mI_J, h72, cQ, e1, clp (show G < 2 ^ 31 by omega), i32_16, i32_32, i32_48, nI_add, nI_add, nI_add, clp (show 16 + G < 2 ^ 31 by omega), clp (show 32 + G < 2 ^ 31 by omega), clp (show 48 + G < 2 ^ 31 by omega), show (11 : Int32) = nI 11 from rfl, pk_mul]
  refine ⟨xQ, xQ, _, rfl, ?_⟩
  rw [mI_J, mI_J, h72, cQ]
  refine ⟨xQ, _, rfl, ?_⟩
  rw [mI_I, if_neg (by omega), mI_J, mI_J, h72, nI_1]
  refine ⟨_, rfl, xin_nI (by omega) (by omega), xin_nI (by omega) (by omega), _, rfl, xin_nI (by omega) (by omega), _, rfl, xin_nI (by omega) (by omega), _, rfl, ?_⟩
  rw [mI_I, if_neg (by omega), mI_I, if_neg (by omega), mI_I, if_neg (by omega), mI_I, if_neg (by omega), mI_I, if_neg (by omega), mI_I, if_neg (by omega), mI_J, mI_J, h71, nI_1]
  exact k
theorem begun_210 {a b G E Q m p l x y hc : Nat} {pv : Int32} (hG : G < 16) (hE : E ≤ 16) (hQ : Q < 64) (hp : p < 100) (ha : a < 8) (hb : b < 8) (hx : x < 8) (hy : y < 8) (hc5 : hc < 5) (hpv : pv = nI (100 * x + 10 * y + hc)) (h72 : m_I L 7 2 = nI Q) (h71 : m_I L 7 1 = nI G) (h73 : m_I L 7 3 = nI E)
    (ht : fL_told (ms_I L 4 G (nI (10 * a + b))) (nI a) (nI b) = some pv) (k : gL_isBegun_401 lo t Ls xs K h (bg2 (bg1 L G E (10 * a + b) pv) G Q m p l (stB hc)) (nI a) (nI b) (nI m) (nI p) (nI l) (nI G)) : gL_isBegun_210 lo t Ls xs K h L (nI a) (nI b) (nI m) (nI p) (nI l) 1 (nI G) := by
  have e2 : (2 : Int32).toNatClampNeg = 2 := by decide
  have e3 : (3 : Int32).toNatClampNeg = 3 := by decide
  have g4 : m_I (bg1 L G E (10 * a + b) pv) 4 (16 + G) = pv := by rw [bg1_I, if_neg (by omega), if_neg (by omega), if_pos ⟨rfl, rfl⟩]
  have g72 : m_I (bg1 L G E (10 * a + b) pv) 7 2 = nI Q := by rw [bg1_I, if_neg (by omega), if_neg (by omega), if_neg (by omega), if_neg (by omega)]; exact h72
  have g71 : m_I (bg1 L G E (10 * a + b) pv) 7 1 = nI G := by rw [bg1_I, if_neg (by omega), if_neg (by omega), if_neg (by omega), if_neg (by omega)]; exact h71
  unfold gL_isBegun_210
  rw [if_neg (by decide), i32_10, pk_mul, nI_add, clp (show G < 2 ^ 31 by omega), i32_16, i32_32, i32_48, nI_add, nI_add, nI_add, clp (show 16 + G < 2 ^ 31 by omega), clp (show 32 + G < 2 ^ 31 by omega), clp (show 48 + G < 2 ^ 31 by omega), e3, e2]
  refine ⟨xin_nI (by omega) (by omega), _, ht, xin_nI (by omega) (by omega), _, rfl, xin_nI (by omega) (by omega), xin_nI (by omega) (by omega), _, rfl, ?_⟩
  have eW : ms_I (ms_I (ms_I (ms_I L 4 G (nI (10 * a + b))) 4 (16 + G) pv) 4 (32 + G) 0) 4 (48 + G) ((2 : Int32) * m_I (ms_I (ms_I (ms_I L 4 G (nI (10 * a + b))) 4 (16 + G) pv) 4 (32 + G) 0) 7 3) = bg1 L G E (10 * a + b) pv := by
    rw [mI_I, if_neg (by omega), mI_I, if_neg (by omega), mI_I, if_neg (by omega), h73, i32_2, pk_mul]; rfl
  rw [eW, g4, hpv, pk_rem (by omega) (by omega) (by omega), show (100 * x + 10 * y + hc) % 10 = hc by omega, ← hpv, g72]
  have k0 := begun_329 (h := h) (lo := lo) (t := t) (Ls := Ls) (xs := xs) (K := K) (st := stB hc) hG hQ hp g72 g71 k
  have : hc = 0 ∨ hc = 1 ∨ hc = 2 ∨ hc = 3 ∨ hc = 4 := by omega
  rcases this with rfl | rfl | rfl | rfl | rfl
  · rw [if_neg (by decide)]; exact k0
  · rw [if_neg (by decide)]; exact k0
  · rw [if_pos (by decide), if_pos (by decide)]
    unfold gL_isBegun_314 gL_isBegun_328
    rw [if_pos (by decide)]; exact k0
  · rw [if_pos (by decide), if_neg (by decide)]
    unfold gL_isBegun_314 gL_isBegun_328
    rw [if_pos (by decide)]; exact k0
  · rw [if_pos (by decide), if_neg (by decide)]
    unfold gL_isBegun_314 gL_isBegun_328
    rw [if_neg (by decide)]; exact k0
/-- the tie behind a new game -/
theorem begun_lt (hJ : J ≤ 60) (hP : P ≤ J) (H : Rel 16 lo h S t c s n G N P gm nd gl nl ol kp) (T : LT S L J n G ol.length Q N P) {a b m p l x y hc : Nat} (hG : G < 16) (ha : a < n) (hb : b < n) (hx : x < 8) (hy : y < 8) (hpv : pairV S a b ol = nI (100 * x + 10 * y + hc)) :
    LT (gC (gK (gW (ms_i S 47 0) G (nI a) (nI b) (nI x) (nI y) (nI hc) (nI ol.length)) G P (stB hc) (nI l)) G (nI m) (nI p)) (bg2 (bg1 L G ol.length (10 * a + b) (pairV S a b ol)) G Q m p l (stB hc)) (J + 1) n (G + 1) ol.length (Q + 1) N (P + 1) := by
  have h16 := H.G16
  have hV := H.2.2.2.2.2.1.2.2.1
  have h60 := H.N60
  obtain ⟨⟨a1, a2, a3, a4, a5⟩, ⟨b1, b2, b3, b4, b5, b6⟩, ⟨c1, c2, c3, c4, c5⟩, d2, d3, d4, d5, d6⟩ := T
  -- the reference's rows
  have sI : ∀ r j, m_I (gC (gK (gW (ms_i S 47 0) G (nI a) (nI b) (nI x) (nI y) (nI hc) (nI ol.length)) G P (stB hc) (nI l)) G (nI m) (nI p)) r j = _ := fun r j => gS_I
  have si : ∀ k, m_i (gC (gK (gW (ms_i S 47 0) G (nI a) (nI b) (nI x) (nI y) (nI hc) (nI ol.length)) G P (stB hc) (nI l)) G (nI m) (nI p)) k = _ := fun k => gS_i
  have sJ : ∀ r j, m_J (gC (gK (gW (ms_i S 47 0) G (nI a) (nI b) (nI x) (nI y) (nI hc) (nI ol.length)) G P (stB hc) (nI l)) G (nI m) (nI p)) r j = _ := fun r j => gS_J
  generalize gC (gK (gW (ms_i S 47 0) G (nI a) (nI b) (nI x) (nI y) (nI hc) (nI ol.length)) G P (stB hc) (nI l)) G (nI m) (nI p) = S2 at sI si sJ ⊢
  have uI : ∀ r j, (r ≤ 2 ∨ r = 8 ∨ r = 9 ∨ r = 12 ∨ r = 13 ∨ r = 17 ∨ 21 ≤ r) → m_I S2 r j = m_I S r j := fun r j hr => by
    rw [sI, if_neg (by omega), if_neg (by omega), if_neg (by omega), if_neg (by omega), if_neg (by omega), if_neg (by omega), if_neg (by omega), if_neg (by omega), if_neg (by omega), if_neg (by omega), if_neg (by omega), if_neg (by omega), if_neg (by omega)]
  have uN : ∀ r j, r ≠ 14 → r ≠ 15 → r ≠ 20 → j ≠ G → m_I S2 r j = m_I S r j := fun r j h1 h2 h3 hj => by
    rw [sI, if_neg (by omega), if_neg (by omega), if_neg (by omega), if_neg (by omega), if_neg (by omega), if_neg (by omega), if_neg (by omega), if_neg (by omega), if_neg (by omega), if_neg (by omega), if_neg (by omega), if_neg (by omega), if_neg (by omega)]
  have uC : ∀ r j, (r = 14 ∨ r = 15) → j < 2 * G → m_I S2 r j = m_I S r j := fun r j hr hj => by
    rw [sI, if_neg (by omega), if_neg (by omega), if_neg (by omega), if_neg (by omega), if_neg (by omega), if_neg (by omega), if_neg (by omega), if_neg (by omega), if_neg (by omega), if_neg (by omega), if_neg (by omega), if_neg (by omega), if_neg (by omega)]
  have u20 : ∀ j, j ≠ P → m_I S2 20 j = m_I S 20 j := fun j hj => by
    rw [sI, if_neg (by omega), if_neg (by omega), if_neg (by omega), if_neg (by omega), if_neg (by omega), if_neg (by omega), if_neg (by omega), if_neg (by omega), if_neg (by omega), if_neg (by omega), if_neg (by omega), if_neg (by omega), if_neg (by omega)]
  have u20P : m_I S2 20 P = -1 := by
    rw [sI, if_neg (by omega), if_neg (by omega), if_neg (by omega), if_neg (by omega), if_neg (by omega), if_neg (by omega), if_pos ⟨rfl, rfl⟩]
  have uJ : ∀ r j, (r = 18 ∨ r = 19) → j ≠ P → m_J S2 r j = m_J S r j := fun r j hr hj => by rw [sJ, if_neg (by omega), if_neg (by omega)]
  have uJ18 : m_J S2 18 P = stB hc := by rw [sJ, if_neg (by omega), if_pos ⟨rfl, rfl⟩]
  have uJ19 : m_J S2 19 P = 0 := by rw [sJ, if_pos ⟨rfl, rfl⟩]
  have g3 : m_I S2 3 G = nI a := by rw [sI, if_neg (by omega), if_neg (by omega), if_neg (by omega), if_neg (by omega), if_neg (by omega), if_neg (by omega), if_neg (by omega), if_neg (by omega), if_neg (by omega), if_neg (by omega), if_neg (by omega), if_neg (by omega), if_pos ⟨rfl, rfl⟩]
  have g4 : m_I S2 4 G = nI b := by rw [sI, if_neg (by omega), if_neg (by omega), if_neg (by omega), if_neg (by omega), if_neg (by omega), if_neg (by omega), if_neg (by omega), if_neg (by omega), if_neg (by omega), if_neg (by omega), if_neg (by omega), if_pos ⟨rfl, rfl⟩]
  have g5 : m_I S2 5 G = nI x := by rw [sI, if_neg (by omega), if_neg (by omega), if_neg (by omega), if_neg (by omega), if_neg (by omega), if_neg (by omega), if_neg (by omega), if_neg (by omega), if_neg (by omega), if_neg (by omega), if_pos ⟨rfl, rfl⟩]
  have g6 : m_I S2 6 G = nI y := by rw [sI, if_neg (by omega), if_neg (by omega), if_neg (by omega), if_neg (by omega), if_neg (by omega), if_neg (by omega), if_neg (by omega), if_neg (by omega), if_neg (by omega), if_pos ⟨rfl, rfl⟩]
  have g7 : m_I S2 7 G = nI hc := by rw [sI, if_neg (by omega), if_neg (by omega), if_neg (by omega), if_neg (by omega), if_neg (by omega), if_neg (by omega), if_neg (by omega), if_neg (by omega), if_pos ⟨rfl, rfl⟩]
  have g10 : m_I S2 10 G = nI ol.length := by rw [sI, if_neg (by omega), if_neg (by omega), if_neg (by omega), if_neg (by omega), if_neg (by omega), if_neg (by omega), if_neg (by omega), if_pos ⟨rfl, rfl⟩]
  have g11 : m_I S2 11 G = nI P := by rw [sI, if_neg (by omega), if_neg (by omega), if_neg (by omega), if_neg (by omega), if_neg (by omega), if_pos ⟨rfl, rfl⟩]
  have g16 : m_I S2 16 G = nI l := by rw [sI, if_neg (by omega), if_neg (by omega), if_neg (by omega), if_neg (by omega), if_pos ⟨rfl, rfl⟩]
  have g14a : m_I S2 14 (2 * G) = nI m := by rw [sI, if_neg (by omega), if_neg (by omega), if_neg (by omega), if_pos ⟨rfl, rfl⟩]
  have g14b : m_I S2 14 (2 * G + 1) = nI m := by rw [sI, if_neg (by omega), if_pos ⟨rfl, rfl⟩]
  have g15a : m_I S2 15 (2 * G) = nI p := by rw [sI, if_neg (by omega), if_neg (by omega), if_pos ⟨rfl, rfl⟩]
  have g15b : m_I S2 15 (2 * G + 1) = nI p := by rw [sI, if_pos ⟨rfl, rfl⟩]
  obtain ⟨v8, v9, v12, v13⟩ := hV G (Nat.le_refl _) hG
  -- the law's rows
  have lI : ∀ j q, m_I (bg2 (bg1 L G ol.length (10 * a + b) (pairV S a b ol)) G Q m p l (stB hc)) j q = if j = 7 ∧ q = 1 then nI (G + 1) else if j = 5 ∧ q = 48 + G then nI l else if j = 5 ∧ q = 32 + G then nI (11 * p) else if j = 5 ∧ q = 16 + G then nI m else if j = 5 ∧ q = G then nI m else if j = 7 ∧ q = 2 then nI (Q + 1) else if j = 2 ∧ q = Q then nI G else if j = 4 ∧ q = 48 + G then nI (2 * ol.length) else if j = 4 ∧ q = 32 + G then 0 else if j = 4 ∧ q = 16 + G then pairV S a b ol else if j = 4 ∧ q = G then nI (10 * a + b) else m_I L j q := fun j q => by rw [bg2_I, bg1_I]
  have lJ : ∀ j q, m_J (bg2 (bg1 L G ol.length (10 * a + b) (pairV S a b ol)) G Q m p l (stB hc)) j q = if j = 1 ∧ q = Q then 0 else if j = 0 ∧ q = Q then stB hc else m_J L j q := fun j q => bg2_J
  generalize bg2 (bg1 L G ol.length (10 * a + b) (pairV S a b ol)) G Q m p l (stB hc) = L2 at lI lJ ⊢
  have wI : ∀ j q, j ≠ 2 → j ≠ 4 → j ≠ 5 → j ≠ 7 → m_I L2 j q = m_I L j q := fun j q h1 h2 h3 h4 => by
    rw [lI, if_neg (by omega), if_neg (by omega), if_neg (by omega), if_neg (by omega), if_neg (by omega), if_neg (by omega), if_neg (by omega), if_neg (by omega), if_neg (by omega), if_neg (by omega), if_neg (by omega)]
  have w45 : ∀ j q, (j = 4 ∨ j = 5) → q ≠ G → q ≠ 16 + G → q ≠ 32 + G → q ≠ 48 + G → m_I L2 j q = m_I L j q := fun j q h1 h2 h3 h4 h5 => by
    rw [lI, if_neg (by omega), if_neg (by omega), if_neg (by omega), if_neg (by omega), if_neg (by omega), if_neg (by omega), if_neg (by omega), if_neg (by omega), if_neg (by omega), if_neg (by omega), if_neg (by omega)]
  have w2 : ∀ q, q ≠ Q → m_I L2 2 q = m_I L 2 q := fun q h1 => by
    rw [lI, if_neg (by omega), if_neg (by omega), if_neg (by omega), if_neg (by omega), if_neg (by omega), if_neg (by omega), if_neg (by omega), if_neg (by omega), if_neg (by omega), if_neg (by omega), if_neg (by omega)]
  have w2Q : m_I L2 2 Q = nI G := by rw [lI, if_neg (by omega), if_neg (by omega), if_neg (by omega), if_neg (by omega), if_neg (by omega), if_neg (by omega), if_pos ⟨rfl, rfl⟩]
  have w7 : ∀ q, q ≠ 1 → q ≠ 2 → m_I L2 7 q = m_I L 7 q := fun q h1 h2 => by
    rw [lI, if_neg (by omega), if_neg (by omega), if_neg (by omega), if_neg (by omega), if_neg (by omega), if_neg (by omega), if_neg (by omega), if_neg (by omega), if_neg (by omega), if_neg (by omega), if_neg (by omega)]
  have w71 : m_I L2 7 1 = nI (G + 1) := by rw [lI, if_pos ⟨rfl, rfl⟩]
  have w72 : m_I L2 7 2 = nI (Q + 1) := by rw [lI, if_neg (by omega), if_neg (by omega), if_neg (by omega), if_neg (by omega), if_neg (by omega), if_pos ⟨rfl, rfl⟩]
  have w50 : m_I L2 5 G = nI m := by rw [lI, if_neg (by omega), if_neg (by omega), if_neg (by omega), if_neg (by omega), if_pos ⟨rfl, rfl⟩]
  have w51 : m_I L2 5 (16 + G) = nI m := by rw [lI, if_neg (by omega), if_neg (by omega), if_neg (by omega), if_pos ⟨rfl, rfl⟩]
  have w52 : m_I L2 5 (32 + G) = nI (11 * p) := by rw [lI, if_neg (by omega), if_neg (by omega), if_pos ⟨rfl, rfl⟩]
  have w53 : m_I L2 5 (48 + G) = nI l := by rw [lI, if_neg (by omega), if_pos ⟨rfl, rfl⟩]
  have w40 : m_I L2 4 G = nI (10 * a + b) := by rw [lI, if_neg (by omega), if_neg (by omega), if_neg (by omega), if_neg (by omega), if_neg (by omega), if_neg (by omega), if_neg (by omega), if_neg (by omega), if_neg (by omega), if_neg (by omega), if_pos ⟨rfl, rfl⟩]
  have w41 : m_I L2 4 (16 + G) = pairV S a b ol := by rw [lI, if_neg (by omega), if_neg (by omega), if_neg (by omega), if_neg (by omega), if_neg (by omega), if_neg (by omega), if_neg (by omega), if_neg (by omega), if_neg (by omega), if_pos ⟨rfl, rfl⟩]
  have w42 : m_I L2 4 (32 + G) = 0 := by rw [lI, if_neg (by omega), if_neg (by omega), if_neg (by omega), if_neg (by omega), if_neg (by omega), if_neg (by omega), if_neg (by omega), if_neg (by omega), if_pos ⟨rfl, rfl⟩]
  have w43 : m_I L2 4 (48 + G) = nI (2 * ol.length) := by rw [lI, if_neg (by omega), if_neg (by omega), if_neg (by omega), if_neg (by omega), if_neg (by omega), if_neg (by omega), if_neg (by omega), if_pos ⟨rfl, rfl⟩]
  have wJ : ∀ j q, q ≠ Q → m_J L2 j q = m_J L j q := fun j q h1 => by rw [lJ, if_neg (by omega), if_neg (by omega)]
  have wJ0 : m_J L2 0 Q = stB hc := by rw [lJ, if_neg (by omega), if_pos ⟨rfl, rfl⟩]
  have wJ1 : m_J L2 1 Q = 0 := by rw [lJ, if_pos ⟨rfl, rfl⟩]
  refine ⟨⟨by rw [si, if_neg (by omega), if_neg (by omega), if_neg (by omega)]; exact a1, by rw [si, if_pos rfl], by rw [si, if_neg (by omega), if_neg (by omega), if_neg (by omega)]; exact a3, by rw [si, if_neg (by omega), if_neg (by omega), if_neg (by omega)]; exact a4, by rw [si, if_neg (by omega), if_pos rfl]⟩, ⟨b1, by omega, b3, b4, by omega, by omega⟩, ⟨by rw [w7 0 (by omega) (by omega)]; exact c1, w71, w72, by rw [w7 3 (by omega) (by omega)]; exact c4, by rw [w7 4 (by omega) (by omega)]; exact c5⟩, fun z hz => ?_, fun g hg => ?_, fun g h1 h2 => ?_, fun j hj => ?_, fun i hi => ?_⟩
  · rw [wI 3 _ (by omega) (by omega) (by omega) (by omega), wI 3 _ (by omega) (by omega) (by omega) (by omega), wI 3 _ (by omega) (by omega) (by omega) (by omega), uI 0 _ (by omega), uI 1 _ (by omega), uI 2 _ (by omega)]
    exact d2 z hz
  · by_cases q : g = G
    · subst q
      refine ⟨⟨?_, ?_, ?_, ?_, ?_, ?_, ?_, ?_, ?_, ?_⟩, [(stB hc, 0)], P, g11, ⟨by omega, uJ18, uJ19, fun _ => u20P, fun z => absurd rfl z⟩, ⟨Q, by omega, w2Q⟩, fun z => ?_, ?_⟩
      · rw [w40, g3, g4, i32_10, pk_mul, nI_add]
      · rw [w41, hpv]; unfold hv; rw [g5, g6, g7, i32_100, i32_10, pk_mul, pk_mul, nI_add, nI_add]
      · rw [w42, uI 8 _ (by omega), v8]
      · rw [w43, g10, uI 9 _ (by omega), v9, i32_2, pk_mul, Int32.add_zero]
      · rw [w50, g14a]
      · rw [w51, g14b]
      · rw [w52, g15a, g15b, i32_10, pk_mul, nI_add]; congr 1; omega
      · rw [w53, g16]
      · rw [wI 6 _ (by omega) (by omega) (by omega) (by omega), uI 12 _ (by omega), v12]; exact (d4 g (Nat.le_refl _) hG).1
      · rw [wI 6 _ (by omega) (by omega) (by omega) (by omega), uI 13 _ (by omega), v13]; exact (d4 g (Nat.le_refl _) hG).2.1
      · rw [List.mem_singleton]
        constructor
        · rintro rfl
          exact ⟨Q, by omega, w2Q, by rw [wJ0, wJ1]⟩
        · rintro ⟨j, hj, e1, e2⟩
          by_cases qj : j = Q
          · subst qj
            rw [← e2, wJ0, wJ1]
          · exfalso
            rw [w2 j qj] at e1
            exact (d4 g (Nat.le_refl _) hG).2.2 j (by omega) e1
      · show some (stB hc, 0) = _
        have : lat L2 g (Q + 1) = Q := by unfold lat; rw [if_pos w2Q]
        rw [this, wJ0, wJ1]
    · obtain ⟨q1, q2⟩ := d3 g (by omega)
      refine ⟨q1.eq (fun r z1 z2 => uN r g (by omega) (by omega) (by omega) q) (uN 12 g (by omega) (by omega) (by omega) q) (uN 13 g (by omega) (by omega) (by omega) q) (fun k hk => ⟨uC 14 _ (Or.inl rfl) (by omega), uC 15 _ (Or.inr rfl) (by omega)⟩) (uN 16 g (by omega) (by omega) (by omega) q) (fun k hk => w45 4 _ (Or.inl rfl) (by omega) (by omega) (by omega) (by omega)) (fun k hk => w45 5 _ (Or.inr rfl) (by omega) (by omega) (by omega) (by omega)) (fun k hk => wI 6 _ (by omega) (by omega) (by omega) (by omega)), ?_⟩
      exact q2.eq (Nat.le_succ P) (Nat.le_succ Q) (uN 11 g (by omega) (by omega) (by omega) q) (fun A hA => ⟨uJ 18 A (Or.inl rfl) (by omega), uJ 19 A (Or.inr rfl) (by omega), u20 A (by omega)⟩) (fun j hj => w2 j (by omega)) (fun j hj => ⟨wJ 0 j (by omega), wJ 1 j (by omega)⟩) (fun j z1 z2 e => by
        obtain rfl : j = Q := by omega
        rw [w2Q] at e
        exact q ((nI_eq (by omega) (by omega)).mp e).symm)
  · refine ⟨by rw [wI 6 _ (by omega) (by omega) (by omega) (by omega)]; exact (d4 g (by omega) h2).1, by rw [wI 6 _ (by omega) (by omega) (by omega) (by omega)]; exact (d4 g (by omega) h2).2.1, fun j hj => ?_⟩
    by_cases qj : j = Q
    · subst qj; rw [w2Q]; exact fun e => absurd ((nI_eq (by omega) (by omega)).mp e) (by omega)
    · rw [w2 j qj]; exact (d4 g (by omega) h2).2.2 j (by omega)
  · rw [wI 6 _ (by omega) (by omega) (by omega) (by omega), uI 17 _ (by omega)]; exact d5 j hj
  · obtain ⟨q1, q2, q3⟩ := d6 i hi
    unfold LNd
    rw [wI 8 _ (by omega) (by omega) (by omega) (by omega), wI 9 _ (by omega) (by omega) (by omega) (by omega), uI 28 _ (by omega), uI 30 _ (by omega)]
    exact ⟨q1, fun k hk => by rw [uI 36 _ (by omega)]; exact q2 k hk, by rw [uI 36 _ (by omega), uI 36 _ (by omega), uI 36 _ (by omega), uI 36 _ (by omega)]; exact q3⟩
/-- .. -/
theorem isBegun_ok (hJ : J ≤ 60) (hP : P ≤ J) (H : Rel 16 lo h S t c s n G N P gm nd gl nl ol kp) (T : LT S L J n G ol.length Q N P) {a b m p l : Nat} (ha : a < 100) (hb : b < 100) (hm : m < 10000) (hp : p < 100) (hl : l < 60) (k : ∀ h2 S2 L2, Tie lo t (J + 1) h2 S2 L2 → K 1 h2 L2) : gL_isBegun lo t Ls xs K h L (nI a) (nI b) (nI m) (nI p) (nI l) := by
  have h8 := H.2.1.1
  have h16 := H.G16
  have hT7 := T.2.2.1
  have hQ := T.2.1.2.2.2.2.1
  have hE := T.2.1.2.2.1
  have A := call_game (K := J) (by omega) (Tie.rr H hP) (nI a) (nI b) (nI m) (nI p) (nI l)
  have e9 := game_9 H (a := a) (b := b) (m := m) (p := p) (l := l) ha hb hm hp (by omega)
  have e401 : ∀ (L2 : MS) (due : Int32), DX lo t h L2 (fun v2 h3 L4 => (if v2 = due then K (1 : Int32) h3 L4 else K (0 : Int32) h3 L4)) (fX8_game h t (nI a) (nI b) (nI m) (nI p) (nI l)) → gL_isBegun_401 lo t Ls xs K h L2 (nI a) (nI b) (nI m) (nI p) (nI l) due := fun L2 due k => by
    unfold gL_isBegun_401
    exact does_1 k
  have sq : ∀ v : Int32, LT (ms_i S 47 v) L (J + 1) n G ol.length Q N P := fun v => T.sq (Nat.le_succ J) (fun n => Sq.f)
  have er1 : ¬ (a < n ∧ b < n) → gL_isBegun_401 lo t Ls xs K h L (nI a) (nI b) (nI m) (nI p) (nI l) (-300 : Int32) := fun q => by
    rw [if_pos q] at e9
    refine e401 _ _ (DX.ex H.1.1 A csIAS (e9.trans (game_e S _ _ _ _ _).1) (j := 0) (E := eI) (by omega) i47 rfl fun h2 R => ?_)
    rw [cod_I, if_pos rfl]
    exact k h2 _ _ (Tie.mk' (by omega) R (sq 1))
  have er2 : (a < n ∧ b < n) → rgt a b m p l = false → gL_isBegun_401 lo t Ls xs K h L (nI a) (nI b) (nI m) (nI p) (nI l) (-200 : Int32) := fun q q2 => by
    rw [if_neg (fun z => z q), if_pos q2] at e9
    refine e401 _ _ (DX.ex H.1.1 A csIAS (e9.trans (game_e S _ _ _ _ _).2.1) (j := 1) (E := eA) (by omega) i47 rfl fun h2 R => ?_)
    rw [cod_A, if_pos rfl]
    exact k h2 _ _ (Tie.mk' (by omega) R (sq 2))
  have er3 : (a < n ∧ b < n) → rgt a b m p l = true → ¬ (bz S a 0 G = false ∧ bz S b 0 G = false ∧ G < 16) → gL_isBegun_401 lo t Ls xs K h L (nI a) (nI b) (nI m) (nI p) (nI l) (-100 : Int32) := fun q q2 q3 => by
    rw [if_neg (fun z => z q), if_neg (by rw [q2]; exact tf), if_neg q3] at e9
    refine e401 _ _ (DX.ex H.1.1 A csIAS (e9.trans (game_e S _ _ _ _ _).2.2) (j := 2) (E := eS) (by omega) i47 rfl fun h2 R => ?_)
    rw [cod_S, if_pos rfl]
    exact k h2 _ _ (Tie.mk' (by omega) R (sq 3))
  -- the law's own way
  have w174 : ∀ (x1 x2 x3 : Int32), (x1 = if a < n ∧ b < n then 1 else 0) → (x2 = if rgt a b m p l = true then 1 else 0) → (x3 = if (a < n ∧ b < n) ∧ rgt a b m p l = true ∧ (bz S a 0 G = false ∧ bz S b 0 G = false ∧ G < 16) then 1 else 0) → gL_isBegun_174 lo t Ls xs K h L (nI a) (nI b) (nI m) (nI p) (nI l) x1 x2 x3 := fun x1 x2 x3 y1 y2 y3 => by
    unfold gL_isBegun_174
    by_cases q1 : a < n ∧ b < n
    · rw [if_pos q1] at y1
      rw [if_neg (by rw [y1]; decide)]
      cases q2 : rgt a b m p l
      · rw [q2, if_neg ff] at y2
        rw [if_pos y2]
        rw [q2, if_neg (fun z => ff z.2.1)] at y3
        unfold gL_isBegun_210
        rw [if_pos y3]
        exact er2 q1 q2
      · rw [q2, if_pos rfl] at y2
        rw [if_neg (by rw [y2]; decide)]
        rw [q2] at y3
        by_cases q3 : bz S a 0 G = false ∧ bz S b 0 G = false ∧ G < 16
        · rw [if_pos ⟨q1, rfl, q3⟩] at y3
          subst y3
          rw [if_neg (by decide), show (1 : Int32).toNatClampNeg = 1 by decide, hT7.2.1]
          -- the game is made
          have hr := q2
          unfold rgt at hr
          rw [Bool.and_eq_true, Bool.and_eq_true, Bool.and_eq_true, decide_eq_true_eq, decide_eq_true_eq, decide_eq_true_eq, decide_eq_true_eq] at hr
          obtain ⟨hab, hm36, hp5, hl1, hl2⟩ := hr
          obtain ⟨x, y, hc, hx, hy, hxy, hc5, hpv, hxab, hw, hbl, hhc⟩ := pair_ok H q1.1 q1.2 hab
          have h9 : fX9_game S (nI a) (nI b) (nI m) (nI p) (nI l) = some (nI G, gC (gK (gW (ms_i S 47 0) G (nI a) (nI b) (nI x) (nI y) (nI hc) (nI ol.length)) G P (stB hc) (nI l)) G (nI m) (nI p)) := by
            rw [if_neg (fun z => z q1), if_neg (by rw [q2]; exact tf), if_pos q3] at e9
            exact e9.trans (game_116 q3.2.2 (by omega) H.2.2.1.2.2.1 H.2.2.2.1.2.2.1 H.2.2.2.2.2.1.1 hc5 hbl hw hhc)
          have ht : fL_told (ms_I L 4 G (nI (10 * a + b))) (nI a) (nI b) = some (pairV S a b ol) := by
            have e3 : ∀ z, prs (ms_I L 4 G (nI (10 * a + b))) z = prs L z := fun z => by
              unfold prs; rw [mI_I, if_neg (by omega), mI_I, if_neg (by omega)]
            exact told_L h8 q1.1 q1.2 ((e3 a).trans (T.lr H a q1.1)) ((e3 b).trans (T.lr H b q1.2)) (H.2.1.2.2.2 a q1.1).2 (H.2.1.2.2.2 b q1.2).2
          refine begun_210 (E := ol.length) q3.2.2 hE (show Q < 64 by omega) hp (by omega) (by omega) hx hy hc5 hpv hT7.2.2.1 hT7.2.1 hT7.2.2.2.1 ht ?_
          have e47 : m_i (gC (gK (gW (ms_i S 47 0) G (nI a) (nI b) (nI x) (nI y) (nI hc) (nI ol.length)) G P (stB hc) (nI l)) G (nI m) (nI p)) 47 = 0 := by rw [gS_i, if_neg (by omega), if_neg (by omega), if_pos rfl]
          refine e401 _ _ (DX.ok H.1.1 A h9 e47 fun h2 R => ?_)
          rw [if_pos rfl]
          refine k h2 _ _ (Tie.mk' (by omega) R (n := n) (G := G + 1) (E := ol.length) (Q := Q + 1) (N := N) (P := P + 1) ?_)
          exact begun_lt hJ hP H T q3.2.2 q1.1 q1.2 hx hy hpv
        · rw [if_neg (fun z => q3 z.2.2)] at y3
          rw [if_pos y3]
          unfold gL_isBegun_210
          rw [if_pos y3]
          exact er3 q1 q2 q3
    · rw [if_neg q1] at y1
      rw [if_pos y1]
      rw [if_neg (fun z => q1 z.1)] at y3
      unfold gL_isBegun_210
      rw [if_pos y3]
      exact er1 q1
  have w83 : ∀ (x1 x2 x3 : Int32), (x1 = if a < n ∧ b < n then 1 else 0) → (x2 = if rgt a b m p l = true then 1 else 0) → (x3 = if (a < n ∧ b < n) ∧ rgt a b m p l = true ∧ G < 16 then 1 else 0) → gL_isBegun_83 lo t Ls xs K h L (nI a) (nI b) (nI m) (nI p) (nI l) x1 x2 x3 := fun x1 x2 x3 y1 y2 y3 => by
    unfold gL_isBegun_83
    by_cases q : (a < n ∧ b < n) ∧ rgt a b m p l = true ∧ G < 16
    · rw [if_pos q] at y3
      subst y3
      refine begun_88 H T ha hb G FU 0 (by omega) (FU_lt (by omega)) ?_
      refine w174 _ _ _ y1 y2 ?_
      by_cases z : bz S a 0 G = false ∧ bz S b 0 G = false
      · rw [if_pos z, if_pos ⟨q.1, q.2.1, z.1, z.2, q.2.2⟩]
      · rw [if_neg z, if_neg (fun e => z ⟨e.2.2.1, e.2.2.2.1⟩)]
    · rw [if_neg q] at y3
      subst y3
      have k0 := w174 x1 x2 0 y1 y2 (by rw [if_neg (fun e => q ⟨e.1, e.2.1, e.2.2.2.2⟩)])
      obtain ⟨f, hf⟩ := FU_s
      rw [hf, gL_isBegun_88]
      by_cases z : m_I L 7 (1 : Int32).toNatClampNeg ≤ 0
      · rw [if_pos z]; exact k0
      · rw [if_neg z, if_pos rfl]; exact k0
  have w57 : ∀ (x1 x2 : Int32), (x1 = if a < n ∧ b < n then 1 else 0) → (x2 = if rgt a b m p l = true then 1 else 0) → gL_isBegun_57 lo t Ls xs K h L (nI a) (nI b) (nI m) (nI p) (nI l) x1 x2 := fun x1 x2 y1 y2 => by
    unfold gL_isBegun_57
    by_cases q1 : a < n ∧ b < n
    · rw [if_neg (by rw [y1, if_pos q1]; decide)]
      cases q2 : rgt a b m p l
      · rw [if_pos (by rw [y2, q2, if_neg ff])]
        exact w83 _ _ _ y1 y2 (by rw [q2, if_neg (fun z => ff z.2.1)])
      · rw [if_neg (by rw [y2, q2, if_pos rfl]; decide), show (1 : Int32).toNatClampNeg = 1 by decide, hT7.2.1]
        by_cases q3 : G < 16
        · rw [if_neg (ge_n 16 16 (by decide) q3 (by omega))]
          exact w83 _ _ _ y1 y2 (by rw [if_pos ⟨q1, q2, q3⟩])
        · rw [if_pos (le_n 16 16 (by decide) (by omega) (by omega))]
          exact w83 _ _ _ y1 y2 (by rw [if_neg (fun z => q3 z.2.2)])
    · rw [if_pos (by rw [y1, if_neg q1])]
      exact w83 _ _ _ y1 y2 (by rw [if_neg (fun z => q1 z.1)])
  have w23 : ∀ (x1 : Int32), (x1 = if a < n ∧ b < n then 1 else 0) → gL_isBegun_23 lo t Ls xs K h L (nI a) (nI b) (nI m) (nI p) (nI l) x1 := fun x1 y1 => by
    unfold gL_isBegun_23
    by_cases q3 : a = b
    · rw [if_pos (by rw [q3])]
      exact w57 _ _ y1 (by unfold rgt; rw [decide_eq_false (show ¬ a ≠ b by omega)]; rfl)
    · rw [if_neg (fun e => q3 ((nI_eq (by omega) (by omega)).mp e))]
      by_cases q4 : m ≤ 3600
      · rw [if_neg (ge_n 3601 3601 (by decide) (by omega) (by omega))]
        by_cases q5 : p ≤ 5
        · rw [if_neg (ge_n 6 6 (by decide) (by omega) (by omega))]
          by_cases q6 : 1 ≤ l
          · rw [if_neg (nI_nle (by omega) (by omega))]
            exact w57 _ _ y1 (by unfold rgt; rw [decide_eq_true q3, decide_eq_true q4, decide_eq_true q5, decide_eq_true (show 1 ≤ l ∧ l ≤ 60 by omega)]; rfl)
          · rw [if_pos (n_le 0 0 (by decide) (by omega) (by omega))]
            exact w57 _ _ y1 (by unfold rgt; rw [decide_eq_false (show ¬ (1 ≤ l ∧ l ≤ 60) by omega)]; simp)
        · rw [if_pos (le_n 6 6 (by decide) (by omega) (by omega))]
          exact w57 _ _ y1 (by unfold rgt; rw [decide_eq_false q5]; simp)
      · rw [if_pos (le_n 3601 3601 (by decide) (by omega) (by omega))]
        exact w57 _ _ y1 (by unfold rgt; rw [decide_eq_false q4]; simp)
  unfold gL_isBegun
  rw [show (0 : Int32).toNatClampNeg = 0 by decide, hT7.1]
  by_cases q1 : a < n
  · rw [if_neg (nI_ge q1 (by omega))]
    by_cases q2 : b < n
    · rw [if_neg (nI_ge q2 (by omega))]
      exact w23 _ (by rw [if_pos ⟨q1, q2⟩])
    · rw [if_pos (nI_le (by omega) (by omega))]
      exact w23 _ (by rw [if_neg (fun z => q2 z.2)])
  · rw [if_pos (nI_le (by omega) (by omega))]
    exact w23 _ (by rw [if_neg (fun z => q1 z.1)])
end BEGUN
