/-! P26 9: marks, lessons, branches. -/
theorem zmul (a b : Int) : Int32.ofInt a * Int32.ofInt b = Int32.ofInt (a * b) := (Int32.ofInt_mul a b).symm
theorem dig_up {A B mk m pw : Nat} (h : (B : Int) = A + ((mk : Int) - m) * pw) : nI A + (nI mk - nI m) * nI pw = nI B := by
  rw [zi A, zi mk, zi m, zi pw, zi B, zsub, zmul, zadd, h]
theorem LT.node {S S2 L L2 : MS} {J n G E Q N N2 P : Nat} (T : LT S L J n G E Q N P) (eI : ∀ a, a ≤ 20 → a ≠ 1 → a ≠ 2 → m_I S2 a = m_I S a) (e12 : ∀ a, a < 8 → m_I S2 1 a = m_I S 1 a ∧ m_I S2 2 a = m_I S 2 a) (eJ : ∀ a, a ≤ 19 → m_J S2 a = m_J S a) (ei : ∀ k, (k = 0 ∨ k = 4 ∨ k = 19 ∨ k = 21) → m_i S2 k = m_i S k) (e36 : m_i S2 36 = nI N2)
    (l : ∀ j, j ≤ 6 → m_I L2 j = m_I L j) (lJ : m_J L2 = m_J L) (l7 : ∀ q, q ≤ 3 → m_I L2 7 q = m_I L 7 q) (l74 : m_I L2 7 4 = nI N2) (hN2 : N2 ≤ 51) (hnd : ∀ i, i < N2 → LNd S2 L2 i) : LT S2 L2 (J + 1) n G E Q N2 P := by
  obtain ⟨⟨a1, a2, a3, a4, a5⟩, ⟨b1, b2, b3, b4, b5, b6⟩, ⟨c1, c2, c3, c4, c5⟩, d2, d3, d4, d5, d6⟩ := T
  refine ⟨⟨(ei 0 (by omega)).trans a1, (ei 4 (by omega)).trans a2, (ei 19 (by omega)).trans a3, e36, (ei 21 (by omega)).trans a5⟩, ⟨b1, b2, b3, hN2, by omega, b6⟩, ⟨(l7 0 (by omega)).trans c1, (l7 1 (by omega)).trans c2, (l7 2 (by omega)).trans c3, (l7 3 (by omega)).trans c4, l74⟩, fun a ha => ?_, fun g hg => ?_, fun g h1 h2 => ?_, fun j hj => ?_, hnd⟩
  · rw [l 3 (by omega), eI 0 (by omega) (by omega) (by omega), (e12 a (by omega)).1, (e12 a (by omega)).2]; exact d2 a ha
  · obtain ⟨q1, q2⟩ := d3 g hg
    refine ⟨q1.eq (fun a h1 h2 => by rw [eI a (by omega) (by omega) (by omega)]) (by rw [eI 12 (by omega) (by omega) (by omega)]) (by rw [eI 13 (by omega) (by omega) (by omega)]) (fun k _ => by rw [eI 14 (by omega) (by omega) (by omega), eI 15 (by omega) (by omega) (by omega)]; exact ⟨rfl, rfl⟩) (by rw [eI 16 (by omega) (by omega) (by omega)]) (fun _ _ => by rw [l 4 (by omega)]) (fun _ _ => by rw [l 5 (by omega)]) (fun _ _ => by rw [l 6 (by omega)]), ?_⟩
    exact q2.eq (Nat.le_refl _) (Nat.le_refl _) (by rw [eI 11 (by omega) (by omega) (by omega)]) (fun A _ => by rw [eJ 18 (by omega), eJ 19 (by omega), eI 20 (by omega) (by omega) (by omega)]; exact ⟨rfl, rfl, rfl⟩) (fun _ _ => by rw [l 2 (by omega)]) (fun _ _ => by rw [lJ]; exact ⟨rfl, rfl⟩) (fun j h1 h2 => by omega)
  · rw [l 6 (by omega), l 2 (by omega)]; exact d4 g h1 h2
  · rw [l 6 (by omega), eI 17 (by omega) (by omega) (by omega)]; exact d5 j hj
section NODEOPS
variable {lo : Nat} {h : TH} {S L : MS} {t c s n G N P Q J : Nat} {gm nd : Nat → Nat} {gl nl : Nat → List BW} {ol : List Nat} {kp : Nat → Bool}
variable {Ls : Nat} {xs : Nat → Int32} {K : Int32 → TH → MS → Prop}
/-- a call that changes nothing -/
theorem Tie.same (hP : P ≤ J) (H : Rel 16 lo h S t c s n G N P gm nd gl nl ol kp) (T : LT S L J n G ol.length Q N P) : Tie lo t (J + 1) h S L :=
  ⟨c, s, n, G, N, P, gm, nd, gl, nl, ol, kp, Q, by omega, H, T.sq (Nat.le_succ J) (fun n => Sq.rf)⟩
theorem ndV_pos (H : Rel 16 lo h S t c s n G N P gm nd gl nl ol kp) (T : LT S L J n G ol.length Q N P) {i : Nat} (hi : i < N) : ¬ ndV S N i < 0 := by
  obtain ⟨pa, mv, hpa, hmv, -, e30, -⟩ := nnum H T hi
  have h60 := H.N60
  have hc : ((List.range N).countP fun j => decide (m_I S 28 j = nI i)) ≤ N := by
    have := List.countP_le_length (p := fun j => decide (m_I S 28 j = nI i)) (l := List.range N)
    rw [List.length_range] at this
    exact this
  unfold ndV
  generalize ((List.range N).countP fun j => decide (m_I S 28 j = nI i)) = q at hc ⊢
  rw [e30, show (1000 : Int32) = nI 1000 from rfl, i32_10, pk_mul, pk_mul, nI_add]
  split
  · rw [nI_1]; exact nI_pos (by omega)
  · rw [Int32.add_zero]; exact nI_pos (by omega)
/-! marks -/
theorem mark_err (S : MS) (x y z : Int32) : fX9_mark_22 S x y z 0 = some (0, ms_i S 47 1) := by
  unfold fX9_mark_22 fX9_mark_48; rw [if_pos rfl, fails_1]; rfl
theorem isIn_03 {x : Nat} (hx : x < 10000) : (decide ((0 : Int32) ≤ nI x) && decide (nI x ≤ 3)) = decide (x < 4) :=
  (isIn_n (lo := 0) (hi := 3) hx (by omega) (by omega)).trans (decide_eq_decide.mpr ⟨fun h => by omega, fun h => by omega⟩)
theorem mark_9 (H : Rel 16 lo h S t c s n G N P gm nd gl nl ol kp) {i tc mk : Nat} (hi : i ≤ N) (htc : tc < 5) (hmk : mk < 5) : fX9_mark S (nI i) (nI tc) (nI mk) = (if i < N ∧ tc < 4 then (if mk < 4 then some (m_I S 36 (4 * i + tc), ms_I (ms_i S 47 0) 36 (4 * i + tc) (nI mk)) else some (0, ms_i S 47 2)) else some (0, ms_i S 47 1)) := by
  have h60 := H.N60
  unfold fX9_mark
  rw [isNode_X9 H, Option.bind_some]
  by_cases q1 : i < N
  · rw [isN_nI q1 (by omega), if_neg tf, isIn_X9, Option.bind_some, isIn_03 (by omega)]
    by_cases q2 : tc < 4
    · rw [decide_eq_true q2, if_neg tf, if_pos ⟨q1, q2⟩]
      unfold fX9_mark_22
      rw [if_neg (by decide), isIn_X9, Option.bind_some, isIn_03 (by omega)]
      by_cases q3 : mk < 4
      · rw [decide_eq_true q3, if_neg tf, if_pos q3]
        unfold fX9_mark_48
        rw [fails_0, Option.bind_some]
        dsimp only
        rw [if_pos rfl, i32_4, pk_mul, nI_add, if_pos (xin_nI (by omega) (by omega)), clp (show 4 * i + tc < 2 ^ 31 by omega), mI_i]
      · rw [decide_eq_false q3, if_pos rfl, if_neg q3]
        unfold fX9_mark_48
        rw [fails_2]; rfl
    · rw [decide_eq_false q2, if_pos rfl, if_neg (fun z => q2 z.2), mark_err]
  · obtain rfl : i = N := by omega
    rw [isN_end (by omega), if_pos rfl, if_neg (fun z => q1 z.1), mark_err]
theorem mark_ok (hJ : J ≤ 60) (hP : P ≤ J) (H : Rel 16 lo h S t c s n G N P gm nd gl nl ol kp) (T : LT S L J n G ol.length Q N P) {i tc mk pw : Nat} (hi : i ≤ N) (htc : tc < 5) (hmk : mk < 5) (hpw : pw = if tc = 0 then 1 else if tc = 1 then 4 else if tc = 2 then 16 else 64) (k : ∀ h2 S2 L2, Tie lo t (J + 1) h2 S2 L2 → K 1 h2 L2) : gL_isNode_497 lo t Ls xs K h L (nI i) (nI tc) (nI mk) (nI pw) := by
  have h60 := H.N60
  have hT7 := T.2.2.1
  have hN51 := T.2.1.2.2.2.1
  have A := call_mark (Tie.rr H hP) (nI i) (nI tc) (nI mk)
  have e9 := mark_9 H hi htc hmk
  have e562 : ∀ (L2 : MS) (due : Int32), DX lo t h L2 (fun v2 h3 L4 => (if v2 = due then K (1 : Int32) h3 L4 else K (0 : Int32) h3 L4)) (fX8_mark h t (nI i) (nI tc) (nI mk)) → gL_isNode_562 lo t Ls xs K h L2 (nI i) (nI tc) (nI mk) due := fun L2 due k => by
    unfold gL_isNode_562
    exact does_8 k
  have sq : ∀ v : Int32, LT (ms_i S 47 v) L (J + 1) n G ol.length Q N P := fun v => T.sq (Nat.le_succ J) (fun n => Sq.f)
  have er1 : ¬ (i < N ∧ tc < 4) → gL_isNode_540 lo t Ls xs K h L (nI i) (nI tc) (nI mk) (nI pw) (-300 : Int32) := fun q => by
    rw [if_neg q] at e9
    unfold gL_isNode_540
    rw [if_pos (by decide)]
    refine e562 _ _ (DX.ex H.1.1 A csIA e9 (j := 0) (E := eI) (by omega) i47 rfl fun h2 R => ?_)
    rw [cod_I, if_pos rfl]
    exact k h2 _ _ (Tie.mk' (by omega) R (sq 1))
  unfold gL_isNode_497
  rw [show (4 : Int32).toNatClampNeg = 4 by decide, hT7.2.2.2.2]
  by_cases q1 : i < N
  · rw [if_neg (fun e => by have := (nI_eq (by omega) (by omega)).mp e; omega)]
    by_cases q2 : tc < 4
    · rw [if_neg (fun e => by have := (n_eq 4 4 (by decide) (by omega) (by omega)).mp e; omega)]
      by_cases q3 : mk < 4
      · rw [if_neg (fun e => by have := (n_eq 4 4 (by decide) (by omega) (by omega)).mp e; omega), clp (show i < 2 ^ 31 by omega)]
        have hp0 : 0 < pw ∧ pw ≤ 64 := by rw [hpw]; split; omega; split; omega; split <;> omega
        refine ⟨xin_nI (by omega) (by omega), nI_ne0 (by omega) (by omega), ?_⟩
        obtain ⟨e8, hm4, el⟩ := T.2.2.2.2.2.2.2 i q1
        have dgs : ∀ k, k < 4 → m_I S 36 (4 * i + k) = nI (m_I S 36 (4 * i + k)).toNatClampNeg ∧ (m_I S 36 (4 * i + k)).toNatClampNeg < 4 := fun k hk => by
          obtain ⟨j, hj, ej⟩ := hm4 k hk
          rw [ej, clp (by omega)]
          exact ⟨rfl, hj⟩
        generalize hdg : (fun k => (m_I S 36 (4 * i + k)).toNatClampNeg) = dg
        have dgs' : ∀ k, k < 4 → m_I S 36 (4 * i + k) = nI (dg k) ∧ dg k < 4 := fun k hk => by rw [← hdg]; exact dgs k hk
        have z0 := dgs' 0 (by omega); have z1 := dgs' 1 (by omega); have z2 := dgs' 2 (by omega); have z3 := dgs' 3 (by omega)
        rw [Nat.add_zero] at z0
        have el' : m_I L 9 i = nI (dg 0 + 4 * dg 1 + 16 * dg 2 + 64 * dg 3) := by
          rw [el, z0.1, z1.1, z2.1, z3.1, i32_4, i32_16, i32_64, pk_mul, pk_mul, pk_mul, nI_add, nI_add, nI_add]
        have hb0 := z0.2; have hb1 := z1.2; have hb2 := z2.2; have hb3 := z3.2
        have hdue : (dg 0 + 4 * dg 1 + 16 * dg 2 + 64 * dg 3) / pw % 4 = dg tc := by
          have : tc = 0 ∨ tc = 1 ∨ tc = 2 ∨ tc = 3 := by omega
          rcases this with rfl | rfl | rfl | rfl
          · rw [hpw, if_pos rfl]; omega
          · rw [hpw, if_neg (by decide), if_pos rfl]; omega
          · rw [hpw, if_neg (by decide), if_neg (by decide), if_pos rfl]; omega
          · rw [hpw, if_neg (by decide), if_neg (by decide), if_neg (by decide)]; omega
        have hup : (((if 0 = tc then mk else dg 0) + 4 * (if 1 = tc then mk else dg 1) + 16 * (if 2 = tc then mk else dg 2) + 64 * (if 3 = tc then mk else dg 3) : Nat) : Int) = ((dg 0 + 4 * dg 1 + 16 * dg 2 + 64 * dg 3 : Nat) : Int) + ((mk : Int) - dg tc) * pw := by
          have : tc = 0 ∨ tc = 1 ∨ tc = 2 ∨ tc = 3 := by omega
          rcases this with rfl | rfl | rfl | rfl
          · rw [hpw, if_pos rfl, if_pos rfl, if_neg (by decide), if_neg (by decide), if_neg (by decide)]; omega
          · rw [hpw, if_neg (by decide), if_pos rfl, if_neg (by decide), if_pos rfl, if_neg (by decide), if_neg (by decide)]; omega
          · rw [hpw, if_neg (by decide), if_neg (by decide), if_pos rfl, if_neg (by decide), if_neg (by decide), if_pos rfl, if_neg (by decide)]; omega
          · rw [hpw, if_neg (by decide), if_neg (by decide), if_neg (by decide), if_pos rfl, if_neg (by decide), if_neg (by decide), if_neg (by decide)]; omega
        have hq := Nat.div_le_self (dg 0 + 4 * dg 1 + 16 * dg 2 + 64 * dg 3) pw
        rw [el', pk_div (by omega) (by omega) (by omega), i32_4, pk_rem (by omega) (by omega) (by omega), hdue]
        rw [if_pos ⟨q1, q2⟩, if_pos q3, (dgs' tc q2).1] at e9
        unfold gL_isNode_540
        rw [if_neg (nI_pos (by have := (dgs' tc q2).2; omega)), clp (show i < 2 ^ 31 by omega), el', dig_up hup]
        refine ⟨xin_nI (by omega) (by omega), _, rfl, ?_⟩
        refine e562 _ _ (DX.ok H.1.1 A e9 (i47 (S := S)) fun h2 R => ?_)
        rw [if_pos rfl]
        refine k h2 _ _ (Tie.mk' (by omega) R (T.node (N2 := N) (fun a h1 _ _ => by funext j; rw [mI_I, if_neg (by omega)]; rfl) (fun a _ => ⟨rfl, rfl⟩) (fun a _ => rfl) (fun k hk => by rw [show m_i (ms_I (ms_i S 47 0) 36 (4 * i + tc) (nI mk)) k = m_i (ms_i S 47 0) k from rfl, mi_i, if_neg (by omega)]) (by rw [show m_i (ms_I (ms_i S 47 0) 36 (4 * i + tc) (nI mk)) 36 = m_i (ms_i S 47 0) 36 from rfl, mi_i, if_neg (by omega)]; exact T.1.2.2.2.1) (fun j hj => by funext q; rw [mI_I, if_neg (by omega)]) rfl (fun q _ => by rw [mI_I, if_neg (by omega)]) (by rw [mI_I, if_neg (by omega)]; exact hT7.2.2.2.2) hN51 fun j hj => ?_))
        obtain ⟨f8, f4, f9⟩ := T.2.2.2.2.2.2.2 j hj
        have s36 : ∀ q, m_I (ms_I (ms_i S 47 0) 36 (4 * i + tc) (nI mk)) 36 q = if q = 4 * i + tc then nI mk else m_I S 36 q := fun q => by rw [mI_I, mI_i]; simp
        unfold LNd
        rw [show m_I (ms_I (ms_i S 47 0) 36 (4 * i + tc) (nI mk)) 28 j = m_I S 28 j by rw [mI_I, if_neg (by omega), mI_i], show m_I (ms_I (ms_i S 47 0) 36 (4 * i + tc) (nI mk)) 30 j = m_I S 30 j by rw [mI_I, if_neg (by omega), mI_i], s36, s36, s36, s36, mI_I, if_neg (by omega)]
        refine ⟨f8, fun k hk => ?_, ?_⟩
        · rw [s36]
          split
          · exact ⟨mk, q3, rfl⟩
          · exact f4 k hk
        · by_cases qj : j = i
          · subst qj
            rw [mI_I, if_pos ⟨rfl, rfl⟩, z0.1, z1.1, z2.1, z3.1]
            have c0 : (if 4 * j = 4 * j + tc then nI mk else nI (dg 0)) = nI (if 0 = tc then mk else dg 0) := by
              by_cases z : 0 = tc
              · rw [if_pos z, if_pos (by omega)]
              · rw [if_neg z, if_neg (by omega)]
            have c1 : (if 4 * j + 1 = 4 * j + tc then nI mk else nI (dg 1)) = nI (if 1 = tc then mk else dg 1) := by
              by_cases z : 1 = tc
              · rw [if_pos z, if_pos (by omega)]
              · rw [if_neg z, if_neg (by omega)]
            have c2 : (if 4 * j + 2 = 4 * j + tc then nI mk else nI (dg 2)) = nI (if 2 = tc then mk else dg 2) := by
              by_cases z : 2 = tc
              · rw [if_pos z, if_pos (by omega)]
              · rw [if_neg z, if_neg (by omega)]
            have c3 : (if 4 * j + 3 = 4 * j + tc then nI mk else nI (dg 3)) = nI (if 3 = tc then mk else dg 3) := by
              by_cases z : 3 = tc
              · rw [if_pos z, if_pos (by omega)]
              · rw [if_neg z, if_neg (by omega)]
            rw [c0, c1, c2, c3, i32_4, i32_16, i32_64, pk_mul, pk_mul, pk_mul, nI_add, nI_add, nI_add]
          · rw [mI_I, if_neg (by omega), if_neg (by omega), if_neg (by omega), if_neg (by omega), if_neg (by omega)]
            exact f9
      · obtain rfl : mk = 4 := by omega
        rw [if_pos (show nI 4 = 4 from rfl)]
        rw [if_pos ⟨q1, q2⟩, if_neg q3] at e9
        unfold gL_isNode_540
        rw [if_pos (by decide)]
        refine e562 _ _ (DX.ex H.1.1 A csIA e9 (j := 1) (E := eA) (by omega) i47 rfl fun h2 R => ?_)
        rw [cod_A, if_pos rfl]
        exact k h2 _ _ (Tie.mk' (by omega) R (sq 2))
    · obtain rfl : tc = 4 := by omega
      rw [if_pos (show nI 4 = 4 from rfl)]
      exact er1 (fun z => q2 z.2)
  · obtain rfl : i = N := by omega
    rw [if_pos rfl]
    exact er1 (fun z => q1 z.1)
/-! lessons -/
theorem Agr.ne {mo t J : Nat} {cs : List String} {r8 : Option ((Int32 × TH) ⊕ (String × TH))} {r9 : Option (Int32 × MS)} (A : Agr mo t J cs r8 r9) : ∃ y, r9 = some y := by
  obtain ⟨h2, S2', R, ⟨v', e8, e9', -⟩ | ⟨j, E, b, hE, hj, e8, e9', q47⟩⟩ := A
  · exact ⟨_, e9'⟩
  · exact ⟨_, e9'⟩
theorem lesson_9 (H : Rel 16 lo h S t c s n G N P gm nd gl nl ol kp) (hN : N < 60) {g mv m : Nat} (hg : g ≤ G) (hmv : mv < 10000) (hm : m ≤ 4000) (h12 : g < G → m_I S 12 g = nI m) (hne : ∃ y, fX9_lesson S (nI g) (nI mv) = some y) :
    (¬ g < G → fX9_lesson S (nI g) (nI mv) = some (0, ms_i S 47 1)) ∧ (g < G → ¬ mv ≤ m → fX9_lesson S (nI g) (nI mv) = some (0, ms_i S 47 2)) ∧
    (g < G → mv ≤ m → ∃ b w sd, fX9_lesson S (nI g) (nI mv) = some (nI N, ms_I (ms_I (mkS (ms_i S 47 0) N (-1) (-2) b w sd (nI N)) 31 N (nI g)) 32 N (nI mv))) := by
  have h16 := H.G16
  have h36 : m_i S 36 = nI N := H.2.2.2.2.1.2.2.1
  refine ⟨fun q => ?_, fun q q2 => ?_, fun q q2 => ?_⟩
  · obtain rfl : g = G := by omega
    unfold fX9_lesson
    rw [isGame_X9 H, Option.bind_some, isN_end (by omega), if_pos rfl]
    unfold fX9_lesson_47
    rw [fails_1]; rfl
  · unfold fX9_lesson
    rw [isGame_X9 H, Option.bind_some, isN_nI q (by omega), if_neg tf, if_pos (xin_nI (by omega) (by omega)), clp (by omega), h12 q, isIn_X9, Option.bind_some, show (decide ((0 : Int32) ≤ nI mv) && decide (nI mv ≤ nI m)) = false from (isIn_n (lo := 0) (by omega) (by omega) (by omega)).trans (decide_eq_false (by omega)), if_pos rfl]
    unfold fX9_lesson_47
    rw [fails_2]; rfl
  · have e0 : fX9_lesson S (nI g) (nI mv) = fX9_lesson_47 S (nI g) (nI mv) 0 := by
      unfold fX9_lesson
      rw [isGame_X9 H, Option.bind_some, isN_nI q (by omega), if_neg tf, if_pos (xin_nI (by omega) (by omega)), clp (by omega), h12 q, isIn_X9, Option.bind_some, show (decide ((0 : Int32) ≤ nI mv) && decide (nI mv ≤ nI m)) = true from (isIn_n (lo := 0) (by omega) (by omega) (by omega)).trans (decide_eq_true (by omega)), if_neg tf, h36, if_neg (fun e => by have := (n_eq 60 60 (by decide) (by omega) (by omega)).mp e; omega)]
    obtain ⟨y, hy⟩ := hne
    rw [e0] at hy ⊢
    unfold fX9_lesson_47 at hy ⊢
    rw [fails_0, Option.bind_some] at hy ⊢
    dsimp only at hy ⊢
    rw [if_pos rfl] at hy ⊢
    cases hp : fX9_position (ms_i S 47 0) (nI g) (nI mv) with
    | none => rw [hp] at hy; cases hy
    | some q3 =>
      rw [hp, Option.bind_some] at hy
      rw [Option.bind_some]
      by_cases hx : xin q3 4096 = true
      · rw [if_pos hx] at hy ⊢
        cases hs : fX9_sideOf (ms_i S 47 0) (nI g) (nI mv) with
        | none => rw [hs] at hy; cases hy
        | some q5 =>
          rw [Option.bind_some, makes_X9 (rt := nI N) (show m_i (ms_i S 47 0) 36 = nI N by rw [mi_i, if_neg (by omega)]; exact h36) hN (Or.inl ⟨rfl, rfl⟩), Option.bind_some]
          dsimp only
          rw [if_pos (xin_nI hN (by omega)), clp (by omega)]
          exact ⟨_, _, _, rfl⟩
      · rw [if_neg hx] at hy; cases hy
/-- a node more, in the law's rows -/
def ndW (L : MS) (N : Nat) (u : Int32) : MS := ms_I (ms_I (ms_I L 8 N u) 9 N 0) 7 4 (nI (N + 1))
theorem ndW_I {L : MS} {N j q : Nat} {u : Int32} : m_I (ndW L N u) j q = if j = 7 ∧ q = 4 then nI (N + 1) else if j = 9 ∧ q = N then 0 else if j = 8 ∧ q = N then u else m_I L j q := by
  unfold ndW; rw [mI_I, mI_I, mI_I]
theorem ndW_eq {L : MS} {N : Nat} {u : Int32} (h : m_I L 7 4 = nI N) : ms_I (ms_I (ms_I L 8 N u) 9 N 0) 7 4 (m_I (ms_I (ms_I L 8 N u) 9 N 0) 7 4 + 1) = ndW L N u := by
  rw [mI_I, if_neg (by omega), mI_I, if_neg (by omega), h, nI_1]; rfl
/-- a node more, with nothing marked -/
theorem LT.more {S2 : MS} {u : Int32} (T : LT S L J n G ol.length Q N P) (H : Rel 16 lo h S t c s n G N P gm nd gl nl ol kp) (hN : N ≤ 50) (uI : ∀ a j, (a ≤ 27 ∨ 36 ≤ a ∨ j ≠ N) → a ≠ 37 → a ≠ 1 → a ≠ 2 → a ≠ 27 → m_I S2 a j = m_I S a j) (e12 : ∀ a, a < 8 → m_I S2 1 a = m_I S 1 a ∧ m_I S2 2 a = m_I S 2 a) (sJ : ∀ a, a ≤ 19 → m_J S2 a = m_J S a) (ei : ∀ k, (k = 0 ∨ k = 4 ∨ k = 19 ∨ k = 21) → m_i S2 k = m_i S k) (e36 : m_i S2 36 = nI (N + 1))
    (hu : u = (m_I S2 28 N + 1) + 64 * (m_I S2 30 N + 2)) : LT S2 (ndW L N u) (J + 1) n G ol.length Q (N + 1) P := by
  refine T.node (N2 := N + 1) (fun a h1 h2 h3 => by funext j; exact uI a j (by omega) (by omega) h2 h3 (by omega)) e12 sJ ei e36 (fun j hj => by funext q; rw [ndW_I, if_neg (by omega), if_neg (by omega), if_neg (by omega)]) rfl (fun q _ => by rw [ndW_I, if_neg (by omega), if_neg (by omega), if_neg (by omega)]) (by rw [ndW_I, if_pos ⟨rfl, rfl⟩]) (by omega) fun j hj => ?_
  have hV : ∀ k, k < 4 → m_I S2 36 (4 * N + k) = 0 := fun k hk => by rw [uI _ _ (by omega) (by omega) (by omega) (by omega) (by omega)]; exact H.2.2.2.2.2.1.2.2.2 N k (Nat.le_refl _) (by omega) hk
  unfold LNd
  have w8 : m_I (ndW L N u) 8 j = if j = N then u else m_I L 8 j := by rw [ndW_I, if_neg (by omega), if_neg (by omega)]; simp
  have w9 : m_I (ndW L N u) 9 j = if j = N then 0 else m_I L 9 j := by rw [ndW_I, if_neg (by omega)]; simp
  rw [w8, w9]
  by_cases qj : j = N
  · subst qj
    rw [if_pos rfl, if_pos rfl]
    have v0 := hV 0 (by omega)
    rw [Nat.add_zero] at v0
    rw [v0, hV 1 (by omega), hV 2 (by omega), hV 3 (by omega)]
    exact ⟨hu, fun k hk => by rw [hV k hk]; exact ⟨0, by omega, rfl⟩, by decide⟩
  · obtain ⟨f8, f4, f9⟩ := T.2.2.2.2.2.2.2 j (by omega)
    rw [if_neg qj, if_neg qj, uI 28 _ (by omega) (by omega) (by omega) (by omega) (by omega), uI 30 _ (by omega) (by omega) (by omega) (by omega) (by omega)]
    refine ⟨f8, fun k hk => by rw [uI _ _ (by omega) (by omega) (by omega) (by omega) (by omega)]; exact f4 k hk, ?_⟩
    rw [uI _ _ (by omega) (by omega) (by omega) (by omega) (by omega), uI _ _ (by omega) (by omega) (by omega) (by omega) (by omega), uI _ _ (by omega) (by omega) (by omega) (by omega) (by omega), uI _ _ (by omega) (by omega) (by omega) (by omega) (by omega)]
    exact f9
theorem lesson_lt (H : Rel 16 lo h S t c s n G N P gm nd gl nl ol kp) (T : LT S L J n G ol.length Q N P) (hN : N ≤ 50) {b w : Int64} {sd x y : Int32} : LT (ms_I (ms_I (mkS (ms_i S 47 0) N (-1) (-2) b w sd (nI N)) 31 N x) 32 N y) (ndW L N 0) (J + 1) n G ol.length Q (N + 1) P := by
  have sI : ∀ a j, m_I (ms_I (ms_I (mkS (ms_i S 47 0) N (-1) (-2) b w sd (nI N)) 31 N x) 32 N y) a j = if a = 32 ∧ j = N then y else if a = 31 ∧ j = N then x else if a = 29 ∧ j = N then nI N else if a = 33 ∧ j = N then sd else if a = 30 ∧ j = N then -2 else if a = 28 ∧ j = N then -1 else m_I S a j := fun a j => by rw [mI_I, mI_I, mkS_I, mI_i]
  have si : ∀ k, m_i (ms_I (ms_I (mkS (ms_i S 47 0) N (-1) (-2) b w sd (nI N)) 31 N x) 32 N y) k = if k = 36 then nI (N + 1) else if k = 47 then 0 else m_i S k := fun k => by
    rw [mi_I, mi_I, mkS_i, mi_i]
  have sJ : ∀ a, a ≤ 19 → m_J (ms_I (ms_I (mkS (ms_i S 47 0) N (-1) (-2) b w sd (nI N)) 31 N x) 32 N y) a = m_J S a := fun a ha => by
    funext j
    rw [mJ_I, mJ_I, mkS_J, if_neg (by omega), if_neg (by omega), mJ_i]
  generalize ms_I (ms_I (mkS (ms_i S 47 0) N (-1) (-2) b w sd (nI N)) 31 N x) 32 N y = S2 at sI si sJ ⊢
  have uI : ∀ a j, (a ≤ 27 ∨ 36 ≤ a ∨ j ≠ N) → m_I S2 a j = m_I S a j := fun a j hj => by
    rw [sI, if_neg (by omega), if_neg (by omega), if_neg (by omega), if_neg (by omega), if_neg (by omega), if_neg (by omega)]
  refine T.more H hN (fun a j h1 _ _ _ _ => uI a j h1) (fun a _ => ⟨uI _ _ (by omega), uI _ _ (by omega)⟩) sJ (fun k hk => by rw [si, if_neg (by omega), if_neg (by omega)]) (by rw [si, if_pos rfl]) ?_
  rw [sI 28, if_neg (by omega), if_neg (by omega), if_neg (by omega), if_neg (by omega), if_neg (by omega), if_pos ⟨rfl, rfl⟩, sI 30, if_neg (by omega), if_neg (by omega), if_neg (by omega), if_neg (by omega), if_pos ⟨rfl, rfl⟩]
  decide
theorem lesson_ok (hJ : J ≤ 60) (hP : P ≤ J) (H : Rel 16 lo h S t c s n G N P gm nd gl nl ol kp) (T : LT S L J n G ol.length Q N P) {g mv : Nat} (hg : g ≤ G) (hmv : mv < 10000) (k : ∀ h2 S2 L2, Tie lo t (J + 1) h2 S2 L2 → K 1 h2 L2) : gL_isNode_83 lo t Ls xs K h L (nI g) (nI mv) := by
  have h16 := H.G16
  have hT7 := T.2.2.1
  have hN51 := T.2.1.2.2.2.1
  have A := call_lesson (K := J) (by omega) (Tie.rr H hP) (nI g) (nI mv)
  have e184 : ∀ (L2 : MS) (due : Int32), DX lo t h L2 (fun v2 h3 L4 => (if v2 = due then K (1 : Int32) h3 L4 else K (0 : Int32) h3 L4)) (fX8_lesson h t (nI g) (nI mv)) → gL_isNode_184 lo t Ls xs K h L2 (nI g) (nI mv) due := fun L2 due k => by
    unfold gL_isNode_184
    exact does_6 k
  have sq : ∀ v : Int32, LT (ms_i S 47 v) L (J + 1) n G ol.length Q N P := fun v => T.sq (Nat.le_succ J) (fun n => Sq.f)
  have e4 : (4 : Int32).toNatClampNeg = 4 := by decide
  -- an error's end
  have er : ∀ (j : Nat) (E : String) (cd : Int32), j < 3 → fX9_lesson S (nI g) (nI mv) = some (0, ms_i S 47 (nI (j + 1))) → [eI, eA, eS][j]? = some E → cod E = cd → cd < 0 → cd ≠ -100 → gL_isNode_131 lo t Ls xs K h L (nI g) (nI mv) cd := fun j E cd hj e9 hE hc h0 h1 => by
    have e162 : gL_isNode_162 lo t Ls xs K h L (nI g) (nI mv) cd := by
      unfold gL_isNode_162
      rw [if_pos h0]
      refine e184 _ _ (DX.ex H.1.1 A csIAS e9 (j := j) (E := E) hj i47 hE fun h2 R => ?_)
      rw [hc, if_pos rfl]
      exact k h2 _ _ (Tie.mk' (by omega) R (sq _))
    unfold gL_isNode_131
    by_cases z : m_I L 7 (4 : Int32).toNatClampNeg ≤ 50
    · rw [if_pos z]; exact e162
    · rw [if_neg z, if_neg h1]; exact e162
  unfold gL_isNode_83
  rw [show (1 : Int32).toNatClampNeg = 1 by decide, hT7.2.1]
  by_cases q1 : g < G
  · obtain ⟨a, b, x, y, hc, et, v, st, m, ps, M0, M1, p0, p1, len, ⟨ha, hb, hab, hx, hy, hxy, hc4, het, hv, hst, hsv, hm, hps, -⟩, ⟨s3, s4, s5, s6, s7, s10, s9, s8, s12, s13, s14a, s14b, s15a, s15b, s16⟩, l1, l2, l3, l4, l5, l6, l7, l8, l9, l10⟩ := gnum H T q1
    rw [if_neg (fun e => by have := (nI_eq (by omega) (by omega)).mp e; omega), clp (by omega), l9]
    refine ⟨xin_nI (by omega) (by omega), ?_⟩
    rw [e4, hT7.2.2.2.2]
    by_cases q2 : mv ≤ m
    · rw [if_pos (nI_le q2 (by omega))]
      by_cases q3 : N ≤ 50
      · rw [if_pos (n_le 50 50 (by decide) q3 (by omega))]
        obtain ⟨-, -, w⟩ := lesson_9 H (by omega) hg hmv hm (fun _ => s12) A.ne
        obtain ⟨b', w', sd, e9⟩ := w q1 q2
        unfold gL_isNode_131
        rw [e4, hT7.2.2.2.2, if_pos (n_le 50 50 (by decide) q3 (by omega))]
        unfold gL_isNode_162
        rw [if_neg (nI_pos (by omega)), clp (show N < 2 ^ 31 by omega), e4]
        refine ⟨xin_nI (by omega) (by omega), _, rfl, _, rfl, ?_⟩
        rw [ndW_eq hT7.2.2.2.2]
        have e47 : m_i (ms_I (ms_I (mkS (ms_i S 47 0) N (-1) (-2) b' w' sd (nI N)) 31 N (nI g)) 32 N (nI mv)) 47 = 0 := by
          rw [mi_I, mi_I, mkS_i, if_neg (by omega)]; exact i47 (S := S)
        refine e184 _ _ (DX.ok H.1.1 A e9 e47 fun h2 R => ?_)
        rw [if_pos rfl]
        exact k h2 _ _ (Tie.mk' (by omega) R (lesson_lt H T q3))
      · rw [if_neg (n_ge 50 50 (by decide) (by omega) (by omega))]
        unfold gL_isNode_131
        rw [e4, hT7.2.2.2.2, if_neg (n_ge 50 50 (by decide) (by omega) (by omega)), if_pos rfl]
        refine ⟨H.1.1, _, _, (show (0 : Int32) = nI 0 from rfl) ▸ rd_node H (i := 0) (by omega), H.ld, ?_⟩
        rw [if_neg (ndV_pos H T (by omega))]
        exact k h S L (Tie.same hP H T)
    · rw [if_neg (nI_ge (by omega) (by omega))]
      obtain ⟨-, w, -⟩ := lesson_9 H (by omega) hg hmv hm (fun _ => s12) A.ne
      exact er 1 eA (-200) (by omega) (w q1 q2) rfl cod_A (by decide) (by decide)
  · rw [if_pos (by congr 1; omega)]
    obtain ⟨w, -, -⟩ := lesson_9 (m := 0) H (by omega) hg hmv (by omega) (fun z => absurd z q1) A.ne
    exact er 0 eI (-300) (by omega) (w q1) rfl cod_I (by decide) (by decide)
end NODEOPS
