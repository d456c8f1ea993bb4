/-! P26 16: a stone played. -/
section PLAYED
variable {lo : Nat} {h : TH} {S L : MS} {t c s n G N P Q J : Nat} {gm nd : Nat → Nat} {gl nl : Nat → List BW} {ol : List Nat} {kp : Nat → Bool}
variable {Ls : Nat} {xs : Nat → Int32} {K : Int32 → TH → MS → Prop}
/-- superko in the law's rows -/
theorem played_152 {a11 a12 a13 a15 a17 : Int32} {g : Nat} {x : BW} (hQ : Q ≤ 64) (hg : g < 16) (h7 : m_I L 7 2 = nI Q) (h0 : m_J L 10 0 = x.1) (h1 : m_J L 10 1 = x.2) :
    ∀ (d fu i : Nat), i + d = Q → d + 1 < fu →
      ((∃ j, i ≤ j ∧ j < Q ∧ m_I L 2 j = nI g ∧ (m_J L 0 j, m_J L 1 j) = x) → gL_isPlayed_212 lo t Ls xs K h L (nI g) a11 a12 a13 a15 0 a17) →
      ((∀ j, i ≤ j → j < Q → ¬ (m_I L 2 j = nI g ∧ (m_J L 0 j, m_J L 1 j) = x)) → gL_isPlayed_212 lo t Ls xs K h L (nI g) a11 a12 a13 a15 1 a17) →
      gL_isPlayed_152 lo t Ls xs K fu h L (nI g) a11 a12 a13 a15 1 a17 (nI i) := by
  have e2 : (2 : Int32).toNatClampNeg = 2 := by decide
  intro d
  induction d with
  | zero =>
    intro fu i hi hf k0 k1
    obtain ⟨f, rfl⟩ : ∃ f, fu = f + 1 := ⟨fu - 1, by omega⟩
    rw [gL_isPlayed_152, e2, h7, if_pos (nI_le (by omega) (by omega))]
    exact k1 fun j h1 h2 => by omega
  | succ d ih =>
    intro fu i hi hf k0 k1
    obtain ⟨f, rfl⟩ : ∃ f, fu = f + 1 := ⟨fu - 1, by omega⟩
    rw [gL_isPlayed_152, e2, h7, if_neg (nI_ge (by omega) (by omega)), if_neg (by decide), clp (by omega)]
    refine ⟨xin_nI (by omega) (by omega), ?_⟩
    have no : ¬ (m_I L 2 i = nI g ∧ (m_J L 0 i, m_J L 1 i) = x) → gL_isPlayed_204 lo t Ls xs K (gL_isPlayed_152 lo t Ls xs K f) h L (nI g) a11 a12 a13 a15 a17 (nI i) 1 := fun q => by
      unfold gL_isPlayed_204
      rw [nI_1]
      exact ih f (i + 1) (by omega) (by omega) (fun ⟨j, z1, z2⟩ => k0 ⟨j, by omega, z2⟩) (fun z => k1 fun j z1 z2 => by
        by_cases qj : j = i
        · rw [qj]; exact q
        · exact z j (by omega) z2)
    have yes : (m_I L 2 i = nI g ∧ (m_J L 0 i, m_J L 1 i) = x) → gL_isPlayed_204 lo t Ls xs K (gL_isPlayed_152 lo t Ls xs K f) h L (nI g) a11 a12 a13 a15 a17 (nI i) 0 := fun q => by
      have kk := k0 ⟨i, Nat.le_refl _, by omega, q⟩
      unfold gL_isPlayed_204
      obtain ⟨f', rfl⟩ : ∃ f', f = f' + 1 := ⟨f - 1, by omega⟩
      rw [gL_isPlayed_152]
      by_cases z : m_I L 7 (2 : Int32).toNatClampNeg ≤ nI i + 1
      · rw [if_pos z]; exact kk
      · rw [if_neg z, if_pos rfl]; exact kk
    rw [show (0 : Int32).toNatClampNeg = 0 by decide, show (1 : Int32).toNatClampNeg = 1 by decide, h0, h1]
    by_cases q1 : m_I L 2 i = nI g
    · rw [if_pos q1]
      by_cases q2 : m_J L 0 i = x.1
      · rw [if_pos q2]
        by_cases q3 : m_J L 1 i = x.2
        · rw [if_pos q3]
          exact yes ⟨q1, Prod.ext q2 q3⟩
        · rw [if_neg q3]
          exact no fun z => q3 (congrArg Prod.snd z.2)
      · rw [if_neg q2]
        exact no fun z => q2 (congrArg Prod.fst z.2)
    · rw [if_neg q1]
      exact no fun z => q1 z.1
/-- no stone can be put: the loop over positions does nothing -/
theorem played_147 {a10 a11 a12 a13 a15 a17 : Int32} (k : gL_isPlayed_212 lo t Ls xs K h L a10 a11 a12 a13 a15 0 a17) : gL_isPlayed_147 lo t Ls xs K h L a10 a11 a12 a13 a15 a17 0 := by
  unfold gL_isPlayed_147
  obtain ⟨f, hf⟩ := FU_s
  rw [hf, gL_isPlayed_152]
  by_cases z : m_I L 7 (2 : Int32).toNatClampNeg ≤ 0
  · rw [if_pos z]; exact k
  · rw [if_neg z, if_pos rfl]; exact k
theorem play_e (S : MS) (x z : Int32) : fX9_play_61 S x z 1 = some (0, ms_i S 47 1) ∧ fX9_play_61 S x z 2 = some (0, ms_i S 47 2) ∧ fX9_play_61 S x z 3 = some (0, ms_i S 47 3) := by
  refine ⟨?_, ?_, ?_⟩
  · unfold fX9_play_61; rw [fails_1]; rfl
  · unfold fX9_play_61; rw [fails_2]; rfl
  · unfold fX9_play_61; rw [fails_3]; rfl
theorem isIn_1000 {x : Nat} (hx : x < 10000) : (decide ((0 : Int32) ≤ nI x) && decide (nI x ≤ 1000)) = decide (x ≤ 1000) :=
  (isIn_n (lo := 0) (hi := 1000) hx (by omega) (by omega)).trans (decide_eq_decide.mpr ⟨fun h => by omega, fun h => by omega⟩)
theorem isPlayed_ok (hJ : J ≤ 60) (hP : P ≤ J) (H : Rel 16 lo h S t c s n G N P gm nd gl nl ol kp) (T : LT S L J n G ol.length Q N P) {g p z : Nat} (hg : g ≤ G) (hp : p < 50) (hz : z < 1002) (k : ∀ h2 S2 L2, Tie lo t (J + 1) h2 S2 L2 → K 1 h2 L2) : gL_isPlayed lo t Ls xs K h L (nI g) (nI p) (nI z) := by
  have h16 := H.G16
  have hT7 := T.2.2.1
  have hQ := T.2.1.2.2.2.2.1
  have A := call_play (K := J) (by omega) (Tie.rr H hP) (nI g) (nI p) (nI z)
  -- the call, behind which the board is looked at when the game and point are there
  have ce : ∀ (L2 : MS) (j : Nat) (E : String) (S2 : MS) (a13 : Int32), j < 3 → fX9_play S (nI g) (nI p) (nI z) = some (0, S2) → m_i S2 47 = nI (j + 1) → [eI, eA, eS][j]? = some E → (∀ n, Sq n S S2) → LT S L2 J n G ol.length Q N P → (a13 = 0 ∨ g < G) → gL_isPlayed_352 lo t Ls xs K h L2 (nI g) (nI p) (nI z) a13 (cod E) := fun L2 j E S2 a13 hj e9 h47 hE hs TL ha => by
    unfold gL_isPlayed_352
    refine does_2 (DX.ex H.1.1 A csIAS e9 (j := j) (E := E) hj h47 hE fun h2 R => ?_)
    have R2 : Tie lo t (J + 1) h2 S2 L2 := Tie.mk' (by omega) R (TL.sq (Nat.le_succ J) hs)
    rw [if_pos rfl]
    by_cases q : a13 = 0
    · rw [if_pos q]; exact k _ _ _ R2
    · rw [if_neg q]
      exact board_tie hJ R2 TL.2.2.1.2.1 h16 (ha.resolve_left q) k
  have ce249 : ∀ (L2 : MS) (E : String) (a13 a15 : Int32), cod E < 0 → gL_isPlayed_352 lo t Ls xs K h L2 (nI g) (nI p) (nI z) a13 (cod E) → gL_isPlayed_249 lo t Ls xs K h L2 (nI g) (nI p) (nI z) a13 a15 (cod E) := fun L2 E a13 a15 hc kk => by
    unfold gL_isPlayed_249 gL_isPlayed_293
    rw [if_pos hc, if_pos hc]; exact kk
  by_cases qt : g < G ∧ p < 49
  · obtain ⟨qg, qp⟩ := qt
    obtain ⟨m, h12, hm, hside⟩ := side_tie H T qg
    obtain ⟨q, A', x, l, e0, a1, a2, a3, a4, a5, a6⟩ := H.pos qg
    obtain ⟨l', e0', hok, hmem, hlat⟩ := T.bd H qg
    have ex : x = (m_J L 0 (lat L g Q), m_J L 1 (lat L g Q)) := (List.cons.inj (e0.symm.trans e0')).1
    have hml : m = l.length := (nI_eq (by omega) (by have := H.2.2.2.2.2.1.2.1 g qg; rw [e0, List.length_cons] at this; omega)).mp (h12.symm.trans a6)
    have hA := a4.1
    have hl4 : l.length ≤ 4000 := by rw [← hml]; exact hm
    have er2 : ¬ z ≤ 1000 → fX9_play S (nI g) (nI p) (nI z) = some (0, ms_i S 47 2) := fun qz => by
      unfold fX9_play
      rw [isGame_X9 H, Option.bind_some, isN_nI qg (by omega), if_neg tf, isPoint_X9, Option.bind_some, isN_nI qp (by omega), if_neg tf]
      unfold fX9_play_20
      rw [if_neg (by decide), isIn_X9, Option.bind_some, isIn_1000 (by omega), decide_eq_false qz, if_pos rfl]
      exact (play_e S _ _).2.1
    have e20 : z ≤ 1000 → fX9_play S (nI g) (nI p) (nI z) = (fX9_canPlay S (nI g) (nI p)).bind fun q4 => (if q4.1 = false then fX9_play_61 q4.2 (nI g) (nI z) 3 else fX9_play_61 q4.2 (nI g) (nI z) 0) := fun qz => by
      unfold fX9_play
      rw [isGame_X9 H, Option.bind_some, isN_nI qg (by omega), if_neg tf, isPoint_X9, Option.bind_some, isN_nI qp (by omega), if_neg tf]
      unfold fX9_play_20
      rw [if_neg (by decide), isIn_X9, Option.bind_some, isIn_1000 (by omega), decide_eq_true qz, if_neg tf]
    -- it can't: any rows that differ in row 10 only
    have bad : ∀ (L2 : MS) (a17 : Int32), LT S L2 J n G ol.length Q N P → (z ≤ 1000 → ∃ S2, fX9_canPlay S (nI g) (nI p) = some (false, S2) ∧ ∀ n, Sq n S S2) → gL_isPlayed_212 lo t Ls xs K h L2 (nI g) (nI p) (nI z) 1 (nI ((bg S g + m) % 2)) 0 a17 := fun L2 a17 TL hno => by
      unfold gL_isPlayed_212
      rw [if_neg (by decide)]
      by_cases qz : z ≤ 1000
      · obtain ⟨S2, f1, f2⟩ := hno qz
        have e9 := e20 qz
        rw [f1, Option.bind_some] at e9
        dsimp only at e9
        rw [if_pos rfl, (play_e S2 _ _).2.2] at e9
        rw [if_pos (n_le 1000 1000 (by decide) qz (by omega)), if_pos rfl, ← cod_S]
        exact ce249 L2 eS 1 _ (by rw [cod_S]; decide) (ce L2 2 eS _ 1 (by omega) e9 i47 rfl (fun n => (f2 n).tr Sq.f) TL (Or.inr qg))
      · rw [if_neg (n_ge 1000 1000 (by decide) (by omega) (by omega)), ← cod_A]
        exact ce249 L2 eA 1 _ (by rw [cod_A]; decide) (ce L2 1 eA _ 1 (by omega) (er2 qz) i47 rfl (fun n => Sq.f) TL (Or.inr qg))
    have bad102 : (z ≤ 1000 → ∃ S2, fX9_canPlay S (nI g) (nI p) = some (false, S2) ∧ ∀ n, Sq n S S2) → gL_isPlayed_102 lo t Ls xs K h L (nI g) (nI p) (nI z) 1 (nI (lat L g Q)) (nI ((bg S g + m) % 2)) 0 := fun hno => by
      unfold gL_isPlayed_102 gL_isPlayed_130
      rw [if_pos rfl, if_pos rfl]
      exact played_147 (bad L (-1) T hno)
    have cL : (nI (lat L g Q)).toNatClampNeg = lat L g Q := clp (by omega)
    have xL : xin (nI (lat L g Q)) 64 = true := xin_nI (by omega) (by omega)
    unfold gL_isPlayed
    rw [show (1 : Int32).toNatClampNeg = 1 by decide, hT7.2.1, if_neg (nI_ge qg (by omega)), if_neg (ge_n 49 49 (by decide) qp (by omega))]
    unfold gL_isPlayed_21
    rw [if_neg (by decide)]
    refine ⟨_, latest_L (by omega) hT7.2.2.1, ?_⟩
    unfold gL_isPlayed_40
    rw [if_neg (by decide)]
    refine ⟨_, hside, ?_⟩
    unfold gL_isPlayed_60
    rw [if_neg (by decide), i32_32, nI_add, clp (show 32 + g < 2 ^ 31 by omega), (T.2.2.2.2.1 g qg).1.2.2.1, cL]
    refine ⟨xin_nI (by omega) (by omega), ?_⟩
    by_cases q8 : m_I S 8 g = 0
    · rw [if_pos q8]
      refine ⟨xL, ?_⟩
      obtain ⟨r1, r2⟩ := canPlay_X9 (p := p) (show g < 16 by omega) (show P ≤ 4096 by omega) a3 a4 a6 a5 qp hl4 q8
      rw [← hml, ← e0] at r1 r2
      by_cases qe : bt x.1 p = false ∧ bt x.2 p = false
      · have hor : bt (m_J L 0 (lat L g Q) ||| m_J L 1 (lat L g Q)) p = false := by
          rw [ex] at qe
          rw [bt_or, qe.1, qe.2]; rfl
        rw [if_pos ((shr_z _ (by omega)).mpr hor)]
        unfold gL_isPlayed_102
        rw [if_neg (by decide), cL]
        have hc01 : nI ((bg S g + m) % 2) = 0 ∨ nI ((bg S g + m) % 2) = 1 := by
          have : (bg S g + m) % 2 = 0 ∨ (bg S g + m) % 2 = 1 := by omega
          rcases this with e | e
          · left; rw [e]; rfl
          · right; rw [e]; rfl
        have hputs := puts_L (L := L) (x := x) (c := nI ((bg S g + m) % 2)) (p := p) a5 qp hc01
        rw [ex] at hputs
        refine ⟨xL, _, hputs, ?_⟩
        rw [← ex]
        dsimp only
        have TL : LT S (ms_J (ms_J L 10 0 (mvB x (nI ((bg S g + m) % 2)) (nI p)).1) 10 1 (mvB x (nI ((bg S g + m) % 2)) (nI p)).2) J n G ol.length Q N P := T.o10 (by rw [mI_J, mI_J]) (fun j q hj => by rw [mJ_J, if_neg (by omega), mJ_J, if_neg (by omega)])
        have j0 : m_J (ms_J (ms_J L 10 0 (mvB x (nI ((bg S g + m) % 2)) (nI p)).1) 10 1 (mvB x (nI ((bg S g + m) % 2)) (nI p)).2) 10 0 = (mvB x (nI ((bg S g + m) % 2)) (nI p)).1 := by rw [mJ_J, if_neg (by omega), mJ_J, if_pos ⟨rfl, rfl⟩]
        have j1 : m_J (ms_J (ms_J L 10 0 (mvB x (nI ((bg S g + m) % 2)) (nI p)).1) 10 1 (mvB x (nI ((bg S g + m) % 2)) (nI p)).2) 10 1 = (mvB x (nI ((bg S g + m) % 2)) (nI p)).2 := by rw [mJ_J, if_pos ⟨rfl, rfl⟩]
        have jm : ∀ y, y ∈ gl g ↔ ∃ j, j < Q ∧ m_I (ms_J (ms_J L 10 0 (mvB x (nI ((bg S g + m) % 2)) (nI p)).1) 10 1 (mvB x (nI ((bg S g + m) % 2)) (nI p)).2) 2 j = nI g ∧ (m_J (ms_J (ms_J L 10 0 (mvB x (nI ((bg S g + m) % 2)) (nI p)).1) 10 1 (mvB x (nI ((bg S g + m) % 2)) (nI p)).2) 0 j, m_J (ms_J (ms_J L 10 0 (mvB x (nI ((bg S g + m) % 2)) (nI p)).1) 10 1 (mvB x (nI ((bg S g + m) % 2)) (nI p)).2) 1 j) = y := fun y => by
          rw [hmem]
          constructor
          · rintro ⟨j, hj, z1, z2⟩
            exact ⟨j, hj, z1, by rw [mJ_J, if_neg (by omega), mJ_J, if_neg (by omega), mJ_J, if_neg (by omega), mJ_J, if_neg (by omega)]; exact z2⟩
          · rintro ⟨j, hj, z1, z2⟩
            exact ⟨j, hj, z1, by rw [mJ_J, if_neg (by omega), mJ_J, if_neg (by omega), mJ_J, if_neg (by omega), mJ_J, if_neg (by omega)] at z2; exact z2⟩
        generalize ms_J (ms_J L 10 0 (mvB x (nI ((bg S g + m) % 2)) (nI p)).1) 10 1 (mvB x (nI ((bg S g + m) % 2)) (nI p)).2 = L1 at TL j0 j1 jm ⊢
        by_cases qs : sui (putO x.1 x.2 (nI ((bg S g + m) % 2)) p) (othOf x.1 x.2 (nI ((bg S g + m) % 2))) p = true
        · rw [if_pos qs]
          unfold gL_isPlayed_130
          rw [if_neg (by decide), if_pos (by decide)]
          exact played_147 (bad L1 _ TL fun _ => r2 fun y => tf (qs.symm.trans y.2.2.1))
        · have hsf : sui (putO x.1 x.2 (nI ((bg S g + m) % 2)) p) (othOf x.1 x.2 (nI ((bg S g + m) % 2))) p = false := by simpa using qs
          have htk : tkn x (nI ((bg S g + m) % 2)) p < 2 ^ 31 := by
            have := cnt_49 (w := dd (othOf x.1 x.2 (nI ((bg S g + m) % 2))) (putO x.1 x.2 (nI ((bg S g + m) % 2)) p) (othOf x.1 x.2 (nI ((bg S g + m) % 2)))) (inA_sb (inA_oth a5.1 a5.2.1) fun i h => (((dead_X9 (inA_oth a5.1 a5.2.1)).2 i).mp h).1)
            unfold tkn
            omega
          rw [if_neg qs]
          unfold gL_isPlayed_130
          rw [if_neg (by decide), if_neg (nI_pos htk)]
          unfold gL_isPlayed_147
          refine played_152 (x := mvB x (nI ((bg S g + m) % 2)) (nI p)) (show Q ≤ 64 by omega) (show g < 16 by omega) TL.2.2.1.2.2.1 j0 j1 Q FU 0 (by omega) (FU_lt (by omega)) (fun ⟨j, _, hj, z1, z2⟩ => ?_) (fun hno => ?_)
          · exact bad L1 _ TL fun _ => r2 fun y => y.2.2.2 ((jm _).mpr ⟨j, hj, z1, z2⟩)
          · have hokm : okM x (nI ((bg S g + m) % 2)) p (gl g) := ⟨qe.1, qe.2, hsf, fun y => by
              obtain ⟨j, hj, z1⟩ := (jm _).mp y
              exact hno j (Nat.zero_le _) hj z1⟩
            have hcan := r1 hokm
            unfold gL_isPlayed_212
            rw [if_neg (by decide)]
            by_cases qz : z ≤ 1000
            · rw [if_pos (n_le 1000 1000 (by decide) qz (by omega)), if_neg (by decide)]
              have e9 := e20 qz
              rw [hcan, Option.bind_some] at e9
              dsimp only at e9
              rw [if_neg tf] at e9
              obtain ⟨hp25, hp28, hp27⟩ := putS_new (S := S) (x := x) (c := nI ((bg S g + m) % 2)) qp
              have hs1 : ∀ n, Sq n S (ms_i (putS S x.1 x.2 (nI ((bg S g + m) % 2)) p) 47 0) := fun n => Sq.put.tr Sq.f
              have j25 : m_j (ms_i (putS S x.1 x.2 (nI ((bg S g + m) % 2)) p) 47 0) 25 = (mvB x (nI ((bg S g + m) % 2)) (nI p)).1 := by rw [mj_i]; exact congrArg Prod.fst hp25
              have j26 : m_j (ms_i (putS S x.1 x.2 (nI ((bg S g + m) % 2)) p) 47 0) 26 = (mvB x (nI ((bg S g + m) % 2)) (nI p)).2 := by rw [mj_i]; exact congrArg Prod.snd hp25
              have i27 : m_i (ms_i (putS S x.1 x.2 (nI ((bg S g + m) % 2)) p) 47 0) 27 = nI (tkn x (nI ((bg S g + m) % 2)) p) := by rw [mi_i, if_neg (by omega)]; exact hp27
              have i47' : m_i (ms_i (putS S x.1 x.2 (nI ((bg S g + m) % 2)) p) 47 0) 47 = 0 := i47
              unfold fX9_play_61 at e9
              rw [fails_0, Option.bind_some] at e9
              dsimp only at e9
              rw [if_pos rfl, if_pos (xin_nI (by omega) (by omega)), clp (show g < 2 ^ 31 by omega)] at e9
              generalize ms_i (putS S x.1 x.2 (nI ((bg S g + m) % 2)) p) 47 0 = S1 at e9 hs1 j25 j26 i27 i47'
              have H1 := H.sq (hs1 n)
              have T1 : LT S1 L1 J n G ol.length Q N P := TL.sq (Nat.le_refl J) hs1
              have hbg : bg S1 g = bg S g := bg_sq (hs1 0)
              have g12 : m_I S1 12 g = nI m := by rw [(hs1 0).I' 12 (by omega)]; exact h12
              have g8 : m_I S1 8 g = 0 := by rw [(hs1 0).I' 8 (by omega)]; exact q8
              have g11 : m_I S1 11 g = nI A' := by rw [(hs1 0).I' 11 (by omega)]; exact a3
              obtain ⟨b, S2, L2, h1, f1, f2, f3, f4, f5, f6, f7, f8, f9, f10⟩ := clk_tie H1 T1 qg g12 hm qz
              rw [hbg] at f2
              have hsd : (bg S g + m) % 2 < 2 := Nat.mod_lt _ (by omega)
              rw [g12, sideOf_X9 (by omega) (by omega), hbg, Option.bind_some, f1, Option.bind_some] at e9
              dsimp only at e9
              unfold gL_isPlayed_249
              rw [if_neg (nI_pos htk)]
              refine ⟨_, f2, ?_⟩
              dsimp only
              cases b with
              | true =>
                rw [if_neg tf] at e9 ⊢
                have s8 : m_I S2 8 g = 0 := by rw [f8 8 (by omega) (by omega)]; exact g8
                obtain ⟨h3, S3, kp2, k1, k2, k3, k4, k5, k6, k7, k8, k9, k10⟩ := ends_E f3 qg (w := 1 - (bg S g + m) % 2) s8 (by omega)
                obtain ⟨L3, g1, g2, g3⟩ := LT.ended f3 f4 (Nat.le_succ J) qg s8 (w := 1 - (bg S g + m) % 2) (by omega) k3 k10
                rw [i32_1, pk_sub (by omega), k2, Option.bind_some] at e9
                rw [i32_1, pk_sub (by omega)]
                refine ⟨L3, g1, ?_⟩
                unfold gL_isPlayed_352
                refine does_2 (DX.ok H.1.1 A e9 (k4.trans ((congrFun f5 47).trans i47')) fun h2 R => ?_)
                have R2 : Tie lo t (J + 1) h2 S3 L3 := Tie.mk' (by omega) R g2
                rw [if_pos rfl, if_neg (by decide)]
                exact board_tie hJ R2 g2.2.2.1.2.1 h16 qg k
              | false =>
                rw [if_pos rfl] at e9 ⊢
                have s21 : m_i S2 21 = nI P := by rw [f5]; exact H1.2.2.2.2.2.1.1
                have s11 : m_I S2 11 g = nI A' := by rw [f8 11 (by omega) (by omega)]; exact g11
                have s12 : m_I S2 12 g = nI m := by rw [f8 12 (by omega) (by omega)]; exact g12
                rw [f6, j25, j26, s11, keeps_X9 s21 (show P < 4096 by omega), Option.bind_some] at e9
                dsimp only at e9
                have e12' : m_I (ms_I (ms_i (ms_I (ms_J (ms_J S2 18 P (mvB x (nI ((bg S g + m) % 2)) (nI p)).1) 19 P (mvB x (nI ((bg S g + m) % 2)) (nI p)).2) 20 P (nI A')) 21 (nI (P + 1))) 11 g (nI P)) 12 g = nI m := by
                  rw [mI_I, if_neg (by omega), mI_i, mI_I, if_neg (by omega), mI_J, mI_J]; exact s12
                rw [e12', nI_1, Option.bind_some] at e9
                have e9' : fX9_play S (nI g) (nI p) (nI z) = some (nI (tkn x (nI ((bg S g + m) % 2)) p), mvS S2 P g A' (m + 1) (mvB x (nI ((bg S g + m) % 2)) (nI p)) (nI 0)) := by
                  rw [e9]
                  have : m_i (mvS S2 P g A' (m + 1) (mvB x (nI ((bg S g + m) % 2)) (nI p)) (nI 0)) 27 = nI (tkn x (nI ((bg S g + m) % 2)) p) := by rw [mvS_i, if_neg (by omega), f5]; exact i27
                  rw [← this]; rfl
                have T3 := f4.played (g := g) (A := A') (m := m + 1) (x := mvB x (nI ((bg S g + m) % 2)) (nI p)) qg (by omega) (by omega) s11 (by omega)
                unfold gL_isPlayed_293
                have w72 := f4.2.2.1.2.2.1
                have w6 : m_I L2 6 g = nI m := by rw [(f4.2.2.2.2.1 g qg).1.2.2.2.2.2.2.2.2.1]; exact s12
                have v0 : m_J L2 10 0 = (mvB x (nI ((bg S g + m) % 2)) (nI p)).1 := by rw [f9]; exact j0
                have v1 : m_J L2 10 1 = (mvB x (nI ((bg S g + m) % 2)) (nI p)).2 := by rw [f9]; exact j1
                have e2 : (2 : Int32).toNatClampNeg = 2 := by decide
                have cQ : (nI Q).toNatClampNeg = Q := clp (by omega)
                have xQ : xin (nI Q) 64 = true := xin_nI (by omega) (by omega)
                rw [if_neg (nI_pos htk), e2, w72, cQ, show (0 : Int32).toNatClampNeg = 0 by decide, show (1 : Int32).toNatClampNeg = 1 by decide, v0, clp (show g < 2 ^ 31 by omega), i32_16, nI_add, clp (show 16 + g < 2 ^ 31 by omega)]
                refine ⟨xQ, _, rfl, ?_⟩
                rw [mI_J, w72, cQ, mJ_J, if_neg (by omega), v1]
                refine ⟨xQ, _, rfl, ?_⟩
                rw [mI_J, mI_J, w72, cQ]
                refine ⟨xQ, _, rfl, ?_⟩
                rw [mI_I, if_neg (by omega), mI_J, mI_J, w72, nI_1]
                refine ⟨_, rfl, xin_nI (by omega) (by omega), ?_⟩
                rw [mI_I, if_neg (by omega), mI_I, if_neg (by omega), mI_J, mI_J, w6, nI_1]
                refine ⟨_, rfl, xin_nI (by omega) (by omega), ?_⟩
                unfold gL_isPlayed_352
                refine does_2 (DX.ok H.1.1 A e9' (by rw [mvS_i, if_neg (by omega), f5]; exact i47') fun h2 R => ?_)
                have R2 : Tie lo t (J + 1) h2 (mvS S2 P g A' (m + 1) (mvB x (nI ((bg S g + m) % 2)) (nI p)) (nI 0)) (plL L2 g Q (m + 1) (mvB x (nI ((bg S g + m) % 2)) (nI p))) := Tie.mk' (by omega) R T3
                rw [if_pos rfl, if_neg (by decide)]
                exact board_tie hJ R2 T3.2.2.1.2.1 h16 qg k
            · rw [if_neg (n_ge 1000 1000 (by decide) (by omega) (by omega)), ← cod_A]
              exact ce249 L1 eA 1 _ (by rw [cod_A]; decide) (ce L1 1 eA _ 1 (by omega) (er2 qz) i47 rfl (fun n => Sq.f) TL (Or.inr qg))
      · have hor : ¬ bt (m_J L 0 (lat L g Q) ||| m_J L 1 (lat L g Q)) p = false := fun y => by
          rw [bt_or, Bool.or_eq_false_iff] at y
          rw [ex] at qe
          exact qe y
        rw [if_neg (fun y => hor ((shr_z _ (by omega)).mp y))]
        exact bad102 fun _ => r2 fun y => qe ⟨y.1, y.2.1⟩
    · rw [if_neg q8]
      exact bad102 fun _ => ⟨S, canPlay_no (by omega) a3 (by omega) q8 _, fun n => Sq.rf⟩
  · have e9 : fX9_play S (nI g) (nI p) (nI z) = some (0, ms_i S 47 1) := by
      have e0 : fX9_play_20 S (nI g) (nI p) (nI z) 0 = some (0, ms_i S 47 1) := by
        unfold fX9_play_20
        rw [if_pos rfl]
        exact (play_e S _ _).1
      unfold fX9_play
      rw [isGame_X9 H, Option.bind_some]
      by_cases qg : g < G
      · rw [isN_nI qg (by omega), if_neg tf, isPoint_X9, Option.bind_some]
        obtain rfl : p = 49 := by omega
        rw [isN_end (by omega), if_pos rfl, e0]
      · obtain rfl : g = G := by omega
        rw [isN_end (by omega), if_pos rfl, e0]
    have w21 : gL_isPlayed_21 lo t Ls xs K h L (nI g) (nI p) (nI z) 0 := by
      unfold gL_isPlayed_21 gL_isPlayed_40 gL_isPlayed_60 gL_isPlayed_102 gL_isPlayed_130
      rw [if_pos rfl, if_pos rfl, if_pos rfl, if_pos rfl, if_pos rfl]
      refine played_147 ?_
      unfold gL_isPlayed_212
      rw [if_pos rfl, ← cod_I]
      exact ce249 L eI 0 _ (by rw [cod_I]; decide) (ce L 0 eI _ 0 (by omega) e9 i47 rfl (fun n => Sq.f) T (Or.inl rfl))
    unfold gL_isPlayed
    rw [show (1 : Int32).toNatClampNeg = 1 by decide, hT7.2.1]
    by_cases qg : g < G
    · rw [if_neg (nI_ge qg (by omega)), if_pos (le_n 49 49 (by decide) (by omega) (by omega))]; exact w21
    · rw [if_pos (nI_le (by omega) (by omega))]; exact w21
end PLAYED
