/-! P26 17: a pass. -/
theorem ends_12 {S : MS} {g E w a b : Nat} (hg : g < 16) (hE : E < 16) (h19 : m_i S 19 = nI E) (ha : m_I S 5 g = nI a) (hb : m_I S 6 g = nI b) (ha8 : a < 8) (hb8 : b < 8) (hab : a ≠ b) (h9 : m_I S 9 g = 0) : ∃ S2, fX9_ends S (nI g) (nI w) = some S2 ∧ Eq12 (eW S g E (nI (w + 1))) S2 := by
  obtain ⟨W, hW⟩ : ∃ W, W = eW S g E (nI (w + 1)) := ⟨_, rfl⟩
  have w5 : ∀ x, x ≠ 8 → x ≠ 17 → m_I W x = m_I S x := fun x h1 h2 => by rw [hW]; unfold eW; funext j; rw [mI_i, mI_I, if_neg (fun z => h2 z.1), mI_I, if_neg (fun z => h1 z.1)]
  obtain ⟨S2, k1, k2, k3⟩ := counts_X9 W (g := g) (x := a) (y := b) (by omega) (by rw [w5 5 (by omega) (by omega)]; exact ha) (by rw [w5 6 (by omega) (by omega)]; exact hb) ha8 hb8 hab (by rw [w5 9 (by omega) (by omega)]; exact h9)
  refine ⟨S2, ?_, by rw [← hW]; exact k2⟩
  unfold fX9_ends
  have e19 : m_i (ms_I S 8 g (nI (w + 1))) 19 = nI E := h19
  rw [if_pos (xin_nI (show g < 16 by omega) (by omega)), clp (show g < 2 ^ 31 by omega), nI_1, e19, if_pos (xin_nI hE (by omega)), Option.bind_some, clp (show E < 2 ^ 31 by omega)]
  have e19b : m_i (ms_I (ms_I S 8 g (nI (w + 1))) 17 E (nI g)) 19 = nI E := h19
  rw [e19b, nI_1]
  have : ms_i (ms_I (ms_I S 8 g (nI (w + 1))) 17 E (nI g)) 19 (nI (E + 1)) = W := by rw [hW]; rfl
  rw [this, k1, Option.bind_some]
theorem LT.ended2 {lo t : Nat} {h2 : TH} {S S2 L : MS} {J J2 J3 n G E Q N P g w : Nat} (T : LT S L J n G E Q N P) (hJ : J ≤ J2) (hg : g < G) (hE : E < 16) (hw : w ≤ 1) (R : RR lo t J3 h2 S2) (hJ3 : J3 ≤ 4000) (e : Eq12 (eW S g E (nI (w + 1))) S2) :
    ∃ L2, fL_ends L (nI g) (nI w) = some L2 ∧ LT S2 L2 J2 n G (E + 1) Q N P ∧ m_I L2 4 (32 + g) = nI (w + 1) := by
  have uI : ∀ a j, a ≠ 1 → a ≠ 2 → m_I S2 a j = if a = 17 ∧ j = E then nI g else if a = 8 ∧ j = g then nI (w + 1) else m_I S a j := fun a j h1 h2 => by
    rw [e.2.2.1 a h1 h2]; unfold eW; rw [mI_i, mI_I, mI_I]
  have ui : ∀ k, m_i S2 k = if k = 19 then nI (E + 1) else m_i S k := fun k => by rw [e.1]; unfold eW; rw [mi_i]; rfl
  have uJ : m_J S2 = m_J S := e.2.2.2
  have hT := T
  obtain ⟨⟨a1, a2, a3, a4, a5⟩, ⟨b1, b2, b3, b4, b5, b6⟩, ⟨c1, c2, c3, c4, c5⟩, d2, d3, d4, d5, d6⟩ := T
  have T' : LT S2 (rkW (leW L g E w) S2 n) J2 n G (E + 1) Q N P := by
    refine hT.upd hJ (by omega) (fun k hk => by rw [ui, if_neg (by omega)]) (by rw [ui, if_pos rfl]) (fun a h0 h1 h2 h3 h4 h5 => by funext j; rw [uI a j h1 h2, if_neg (by omega), if_neg (by omega)]) (fun a _ => by rw [uJ]) (fun g' hg' => ?_) (fun j hj => ?_) (fun j h1 h2 h3 => by funext q; rw [leW_I, if_neg (by omega), if_neg (by omega), if_neg (by omega)]) (fun q hq => by rw [leW_I, if_neg (by omega), if_neg (by omega), if_neg (by omega)]) (fun q hq => by rw [leW_I, if_neg (by omega), if_neg (by omega), if_neg (by omega)]) (fun q hq => by rw [leW_I, if_neg (by omega), if_neg (by omega), if_neg (by omega)]) (by rw [leW_I, if_pos ⟨rfl, rfl⟩]) rfl
    · obtain ⟨-, -, f3, f4, -⟩ := (d3 g' hg').1
      have w32 : m_I (leW L g E w) 4 (32 + g') = if g' = g then nI (w + 1) else m_I L 4 (32 + g') := by
        rw [leW_I, if_neg (by omega), if_neg (by omega)]
        by_cases q : g' = g
        · rw [if_pos ⟨rfl, by omega⟩, if_pos q]
        · rw [if_neg (by omega), if_neg q]
      have w48 : m_I (leW L g E w) 4 (48 + g') = m_I L 4 (48 + g') := by rw [leW_I, if_neg (by omega), if_neg (by omega), if_neg (by omega)]
      have u8 : m_I S2 8 g' = if g' = g then nI (w + 1) else m_I S 8 g' := by
        rw [uI 8 g' (by omega) (by omega), if_neg (by omega)]
        by_cases q : g' = g
        · rw [if_pos ⟨rfl, q⟩, if_pos q]
        · rw [if_neg (by omega), if_neg q]
      have u9 : m_I S2 9 g' = m_I S 9 g' := by rw [uI 9 g' (by omega) (by omega), if_neg (by omega), if_neg (by omega)]
      have u10 : m_I S2 10 g' = m_I S 10 g' := by rw [uI 10 g' (by omega) (by omega), if_neg (by omega), if_neg (by omega)]
      rw [w32, w48, u8, u9, u10]
      exact ⟨by rw [f3], f4⟩
    · rw [leW_I, if_neg (by omega), uI 17 j (by omega) (by omega)]
      by_cases q : j = E
      · rw [if_pos ⟨rfl, by omega⟩, if_pos ⟨rfl, q⟩]
      · rw [if_neg (by omega), if_neg (by omega), if_neg (by omega), if_neg (by omega)]; exact d5 j (by omega)
  obtain ⟨c, s, n', G', N', P', gm, nd, gl, nl, ol, kp, hP, H2⟩ := R
  obtain ⟨rfl, rfl, eE, rfl, rfl⟩ := LT.num H2 (by omega) T'
  rw [eE] at T'
  obtain ⟨hK, hF⟩ := LT.fin H2 T'
  obtain ⟨L2, e1, e2, e3⟩ := ends_L (show g < 16 by omega) hE hw c4 hK eE.symm
  refine ⟨L2, e1, ?_, ?_⟩
  · rw [hF L2 e2 e3, eE]; exact T'
  · rw [hF L2 e2 e3, rkW_n (by omega), leW_I, if_neg (by omega), if_neg (by omega), if_pos ⟨rfl, rfl⟩]
theorem Agr.get {lo t J : Nat} {cs : List String} {r8 : Option ((Int32 × TH) ⊕ (String × TH))} {r9 : Option (Int32 × MS)} (A : Agr lo t J cs r8 r9) {v : Int32} {S2 : MS} (e9 : r9 = some (v, S2)) : ∃ h2, RR lo t (J + 1) h2 S2 := by
  obtain ⟨h2, S2', R, ⟨v', e8, e9', -⟩ | ⟨j, E, b, hE, hj, e8, e9', q47⟩⟩ := A
  · rw [e9] at e9'; cases e9'; exact ⟨h2, R⟩
  · rw [e9] at e9'; cases e9'; exact ⟨h2, R⟩
section PASSED
variable {lo : Nat} {h : TH} {S L : MS} {t c s n G N P Q J : Nat} {gm nd : Nat → Nat} {gl nl : Nat → List BW} {ol : List Nat} {kp : Nat → Bool}
variable {Ls : Nat} {xs : Nat → Int32} {K : Int32 → TH → MS → Prop}
theorem pass_e (S : MS) (x z : Int32) : fX9_pass_44 S x z 1 = some (0, ms_i S 47 1) ∧ fX9_pass_44 S x z 2 = some (0, ms_i S 47 2) ∧ fX9_pass_44 S x z 3 = some (0, ms_i S 47 3) := by
  refine ⟨?_, ?_, ?_⟩
  · unfold fX9_pass_44; rw [fails_1]; rfl
  · unfold fX9_pass_44; rw [fails_2]; rfl
  · unfold fX9_pass_44; rw [fails_3]; rfl
theorem paL_J {g m ps : Nat} : m_J (paL L g m ps) = m_J L := by unfold paL; rw [mJ_I, mJ_I]
theorem passed_in {pf : Option (Int32 × MS)} {S2 L2 : MS} {g m A' ps xx yy hc z E : Nat} {x : BW} (hJ : J ≤ 60) (hP : P ≤ J) (f4 : LT S2 L2 J n G E Q N P) (qg : g < G) (hE16 : E < 16) (hA : A' < P)
    (s11 : m_I S2 11 g = nI A') (s12 : m_I S2 12 g = nI m) (s13 : m_I S2 13 g = nI ps) (s5 : m_I S2 5 g = nI xx) (s6 : m_I S2 6 g = nI yy) (s7 : m_I S2 7 g = nI hc) (s8 : m_I S2 8 g = 0) (s9 : m_I S2 9 g = 0) (hxx : xx < 8) (hyy : yy < 8) (hxy : xx ≠ yy) (hc4 : hc ≤ 4) (hps : ps < 2) (hm : m ≤ 4000)
    (s21 : m_i S2 21 = nI P) (s19 : m_i S2 19 = nI E) (s47 : m_i S2 47 = 0) (j18 : m_J S2 18 A' = x.1) (j19 : m_J S2 19 A' = x.2) (a5 : OKB x) (hlat : lat L2 g Q < 64) (ex : x = (m_J L2 0 (lat L2 g Q), m_J L2 1 (lat L2 g Q))) (l2 : m_I L2 4 (16 + g) = nI (100 * xx + 10 * yy + hc)) (l3 : m_I L2 4 (32 + g) = 0)
    (A : ∀ v S3, pf = some (v, S3) → ∃ h2, RR lo t (J + 1) h2 S3)
    (e211 : ∀ (L2 : MS) (v : Int32) (S2 : MS), pf = some (v, S2) → m_i S2 47 = 0 → m_I L2 4 (32 + g) = v → (∀ h2, RR lo t (J + 1) h2 S2 → Tie lo t (J + 1) h2 S2 L2) → gL_isPassed_211 lo t Ls xs K h L2 (nI g) (nI z))
    (e9 : pf = (if xin (m_I S2 11 g) 4096 = true then (fX9_keeps S2 (m_J S2 18 (m_I S2 11 g).toNatClampNeg) (m_J S2 19 (m_I S2 11 g).toNatClampNeg) (m_I S2 11 g)).bind fun q8 => (some (ms_I (ms_I q8.2 11 g q8.1) 12 g ((m_I (ms_I q8.2 11 g q8.1) 12 g) + (1 : Int32)))).bind fun W9 => (some (ms_I W9 13 g ((m_I W9 13 g) + (1 : Int32)))).bind fun W10 => (if (m_I W10 13 g) = (2 : Int32) then (fX9_scoreOf W10 (nI g)).bind fun q12 => (if q12 ≤ 0 then fX9_pass_173 W10 (nI g) (nI g) (1 : Int32) else fX9_pass_173 W10 (nI g) (nI g) (0 : Int32)) else fX9_pass_176 W10 (nI g)) else none)) :
    (xin (nI g) 48 = true ∧ (∃ W10, (ms_I L2 6 (nI g).toNatClampNeg ((m_I L2 6 (nI g).toNatClampNeg) + (1 : Int32))) = W10 ∧ (xin ((16 : Int32) + (nI g)) 48 = true ∧ (∃ W12, (ms_I W10 6 ((16 : Int32) + (nI g)).toNatClampNeg ((m_I W10 6 ((16 : Int32) + (nI g)).toNatClampNeg) + (1 : Int32))) = W12 ∧ (if (m_I W12 6 ((16 : Int32) + (nI g)).toNatClampNeg) = (2 : Int32) then (xin (nI (lat L2 g Q)) 64 = true ∧ (xin ((16 : Int32) + (nI g)) 64 = true ∧ (∃ q16, fL_score (m_J W12 0 (nI (lat L2 g Q)).toNatClampNeg) (m_J W12 1 (nI (lat L2 g Q)).toNatClampNeg) ((m_I W12 4 ((16 : Int32) + (nI g)).toNatClampNeg) - (m_I W12 4 ((16 : Int32) + (nI g)).toNatClampNeg) / (10 : Int32) * (10 : Int32)) = some q16 ∧ (if q16 ≤ 0 then gL_isPassed_208 lo t Ls xs K h W12 (nI g) (nI z) (nI g) (1 : Int32) else gL_isPassed_208 lo t Ls xs K h W12 (nI g) (nI z) (nI g) (0 : Int32))))) else gL_isPassed_211 lo t Ls xs K h W12 (nI g) (nI z)))))) := by
  have hg16 : G ≤ 16 := f4.2.1.2.1
  rw [s11, if_pos (xin_nI (show A' < 4096 by omega) (by omega)), clp (show A' < 2 ^ 31 by omega), j18, j19, keeps_X9 s21 (show P < 4096 by omega), Option.bind_some] at e9
  dsimp only at e9
  have e12' : m_I (ms_I (ms_i (ms_I (ms_J (ms_J S2 18 P x.1) 19 P x.2) 20 P (nI A')) 21 (nI (P + 1))) 11 g (nI P)) 12 g = nI m := by
    rw [mI_I, if_neg (by omega), mI_i, mI_I, if_neg (by omega), mI_J, mI_J]; exact s12
  rw [e12', nI_1, Option.bind_some] at e9
  have e13' : m_I (ms_I (ms_I (ms_i (ms_I (ms_J (ms_J S2 18 P x.1) 19 P x.2) 20 P (nI A')) 21 (nI (P + 1))) 11 g (nI P)) 12 g (nI (m + 1))) 13 g = nI ps := by
    rw [mI_I, if_neg (by omega), mI_I, if_neg (by omega), mI_i, mI_I, if_neg (by omega), mI_J, mI_J]; exact s13
  rw [e13', nI_1, Option.bind_some] at e9
  have eW10 : ms_I (ms_I (ms_I (ms_i (ms_I (ms_J (ms_J S2 18 P x.1) 19 P x.2) 20 P (nI A')) 21 (nI (P + 1))) 11 g (nI P)) 12 g (nI (m + 1))) 13 g (nI (ps + 1)) = mvS S2 P g A' (m + 1) x (nI (ps + 1)) := rfl
  rw [eW10] at e9
  have T3 := f4.passed (g := g) (A := A') (m := m + 1) (ps := ps + 1) (x := x) qg (by omega) s11 (by omega) ex
  have w13 : m_I (mvS S2 P g A' (m + 1) x (nI (ps + 1))) 13 g = nI (ps + 1) := by rw [mvS_I, if_pos ⟨rfl, rfl⟩]
  have wI : ∀ y, (y ≠ 11 ∧ y ≠ 12 ∧ y ≠ 13 ∧ y ≠ 20) → m_I (mvS S2 P g A' (m + 1) x (nI (ps + 1))) y g = m_I S2 y g := fun y hy => by
    rw [mvS_I, if_neg (by omega), if_neg (by omega), if_neg (by omega), if_neg (by omega)]
  have w47 : m_i (mvS S2 P g A' (m + 1) x (nI (ps + 1))) 47 = 0 := by rw [mvS_i, if_neg (by omega)]; exact s47
  have w19 : m_i (mvS S2 P g A' (m + 1) x (nI (ps + 1))) 19 = nI E := by rw [mvS_i, if_neg (by omega)]; exact s19
  have w11 : m_I (mvS S2 P g A' (m + 1) x (nI (ps + 1))) 11 g = nI P := by rw [mvS_I, if_neg (by omega), if_neg (by omega), if_pos ⟨rfl, rfl⟩]
  have w18 : m_J (mvS S2 P g A' (m + 1) x (nI (ps + 1))) 18 P = x.1 := by rw [mvS_J, if_neg (by omega), if_pos ⟨rfl, rfl⟩]
  have w19b : m_J (mvS S2 P g A' (m + 1) x (nI (ps + 1))) 19 P = x.2 := by rw [mvS_J, if_pos ⟨rfl, rfl⟩]
  rw [w13] at e9
  have w6 : m_I L2 6 g = nI m := by rw [(f4.2.2.2.2.1 g qg).1.2.2.2.2.2.2.2.2.1]; exact s12
  have w6b : m_I L2 6 (16 + g) = nI ps := by rw [(f4.2.2.2.2.1 g qg).1.2.2.2.2.2.2.2.2.2]; exact s13
  have pI : ∀ j q, j ≠ 6 → m_I (paL L2 g (m + 1) (ps + 1)) j q = m_I L2 j q := fun j q hj => by rw [paL_I, if_neg (by omega), if_neg (by omega)]
  rw [clp (show g < 2 ^ 31 by omega), w6, nI_1, i32_16, nI_add, clp (show 16 + g < 2 ^ 31 by omega)]
  refine ⟨xin_nI (by omega) (by omega), _, rfl, xin_nI (by omega) (by omega), _, rfl, ?_⟩
  have r6 : m_I (ms_I L2 6 g (nI (m + 1))) 6 (16 + g) = nI ps := by rw [mI_I, if_neg (by omega)]; exact w6b
  rw [r6, nI_1]
  have ep : ms_I (ms_I L2 6 g (nI (m + 1))) 6 (16 + g) (nI (ps + 1)) = paL L2 g (m + 1) (ps + 1) := rfl
  rw [ep, show m_I (paL L2 g (m + 1) (ps + 1)) 6 (16 + g) = nI (ps + 1) by rw [paL_I, if_pos ⟨rfl, rfl⟩]]
  by_cases qp : ps = 1
  · subst qp
    rw [if_pos (show nI (1 + 1) = 2 from rfl)] at e9 ⊢
    have hsc := scoreOf_X9 (S := mvS S2 P g A' (m + 1) x (nI (1 + 1))) (g := g) (L := P) (x := x) (by omega) w11 (by omega) w18 w19b a5
    rw [wI 7 (by omega), s7] at hsc
    have e6 : (if nI hc = 0 then (6 : Int) else 0) = if hc = 0 then 6 else 0 := by
      by_cases y : hc = 0
      · subst y; rw [if_pos rfl, if_pos nI_0]
      · rw [if_neg (nI_ne0 (by omega) (by omega)), if_neg y]
    rw [e6] at hsc
    rw [hsc, Option.bind_some] at e9
    have hls := score_L (x := x) a5 (show hc < 1000 by omega)
    refine ⟨xin_nI (by omega) (by omega), xin_nI (by omega) (by omega), Int32.ofInt (sco x - if hc = 0 then 6 else 0), ?_, ?_⟩
    · rw [clp (show lat L2 g Q < 2 ^ 31 by omega), paL_J, pI 4 _ (by omega), l2, i32_10, pk_rem (by omega) (by omega) (by omega), show (100 * xx + 10 * yy + hc) % 10 = hc by omega]
      have f1 := congrArg Prod.fst ex
      have f2 := congrArg Prod.snd ex
      dsimp only at f1 f2
      rw [f1, f2] at hls
      exact hls
    · have fin : ∀ (w : Nat) (dd : Int32), dd = nI w → w ≤ 1 → pf = fX9_pass_173 (mvS S2 P g A' (m + 1) x (nI (1 + 1))) (nI g) (nI g) dd → gL_isPassed_208 lo t Ls xs K h (paL L2 g (m + 1) (1 + 1)) (nI g) (nI z) (nI g) dd := fun w dd hdd hw e9 => by
        subst hdd
        obtain ⟨S3, k1, k2⟩ := ends_12 (S := mvS S2 P g A' (m + 1) x (nI (1 + 1))) (g := g) (E := E) (w := w) (by omega) hE16 w19 ((wI 5 (by omega)).trans s5) ((wI 6 (by omega)).trans s6) (by omega) (by omega) hxy (by rw [wI 9 (by omega), s9])
        unfold fX9_pass_173 fX9_pass_176 at e9
        rw [k1, Option.bind_some, if_pos (xin_nI (by omega) (by omega)), clp (show g < 2 ^ 31 by omega)] at e9
        have s38 : m_I S3 8 g = nI (w + 1) := by
          rw [k2.2.2.1 8 (by omega) (by omega)]; unfold eW; rw [mI_i, mI_I, if_neg (by omega), mI_I, if_pos ⟨rfl, rfl⟩]
        have s347 : m_i S3 47 = 0 := by rw [k2.1]; unfold eW; rw [mi_i, if_neg (by omega), mi_I, mi_I]; exact w47
        rw [s38] at e9
        obtain ⟨h3, R3⟩ := A _ _ e9
        obtain ⟨L3, g1, g2, g3⟩ := T3.ended2 (Nat.le_refl _) qg hE16 hw R3 (by omega) k2
        unfold gL_isPassed_208
        exact ⟨L3, g1, e211 L3 _ S3 e9 s347 g3 (fun h2 R => Tie.mk' (by omega) R g2)⟩
      by_cases qv : Int32.ofInt (sco x - if hc = 0 then 6 else 0) ≤ 0
      · rw [if_pos qv] at e9 ⊢
        exact fin 1 1 rfl (by omega) e9
      · rw [if_neg qv] at e9 ⊢
        exact fin 0 0 rfl (by omega) e9
  · have hp0 : ps = 0 := by omega
    subst hp0
    rw [if_neg (show ¬ nI (0 + 1) = 2 by decide)] at e9 ⊢
    unfold fX9_pass_176 at e9
    rw [if_pos (xin_nI (by omega) (by omega)), clp (show g < 2 ^ 31 by omega), wI 8 (by omega), s8] at e9
    exact e211 _ _ _ e9 w47 (by rw [pI 4 _ (by omega)]; exact l3) (fun h2 R => Tie.mk' (by omega) R T3)
theorem isPassed_ok (hJ : J ≤ 60) (hP : P ≤ J) (H : Rel 16 lo h S t c s n G N P gm nd gl nl ol kp) (T : LT S L J n G ol.length Q N P) {g z : Nat} (hg : g ≤ G) (hz : z < 1002) (k : ∀ h2 S2 L2, Tie lo t (J + 1) h2 S2 L2 → K 1 h2 L2) : gL_isPassed lo t Ls xs K h L (nI g) (nI z) := by
  have h16 := H.G16
  have hT7 := T.2.2.1
  have hQ := T.2.1.2.2.2.2.1
  have e1 : (1 : Int32).toNatClampNeg = 1 := by decide
  have A := call_pass (K := J) (by omega) (Tie.rr H hP) (nI g) (nI z)
  have sq : ∀ v : Int32, LT (ms_i S 47 v) L (J + 1) n G ol.length Q N P := fun v => T.sq (Nat.le_succ J) (fun n => Sq.f)
  -- an error's end
  have er : ∀ (j : Nat) (E : String), j < 3 → fX9_pass S (nI g) (nI z) = some (0, ms_i S 47 (nI (j + 1))) → [eI, eA, eS][j]? = some E → cod E = (if g < G then (if z ≤ 1000 then -100 else -200) else -300) → gL_isPassed_28 lo t Ls xs K h L (nI g) (nI z) := fun j E hj e9 hE hc => by
    unfold gL_isPassed_28
    refine does_3 (DX.ex H.1.1 A csIAS e9 (j := j) (E := E) hj i47 hE fun h2 R => ?_)
    have kk := k h2 _ _ (Tie.mk' (by omega) R (sq (nI (j + 1))))
    rw [e1, hT7.2.1, hc]
    unfold gL_isPassed_71
    by_cases q : g < G
    · rw [if_neg (fun e => by have := (nI_eq (by omega) (by omega)).mp e; omega), if_pos q]
      by_cases q2 : z ≤ 1000
      · rw [if_pos (n_le 1000 1000 (by decide) q2 (by omega)), if_pos q2, if_pos rfl]; exact kk
      · rw [if_neg (n_ge 1000 1000 (by decide) (by omega) (by omega)), if_neg q2, if_pos rfl]; exact kk
    · rw [if_pos (by congr 1; omega), if_neg q, if_pos rfl]; exact kk
  have e211 : ∀ (L2 : MS) (v : Int32) (S2 : MS), fX9_pass S (nI g) (nI z) = some (v, S2) → m_i S2 47 = 0 → m_I L2 4 (32 + g) = v → (∀ h2, RR lo t (J + 1) h2 S2 → Tie lo t (J + 1) h2 S2 L2) → g < 16 → gL_isPassed_211 lo t Ls xs K h L2 (nI g) (nI z) := fun L2 v S2 e9 e47 ev hR hg16 => by
    unfold gL_isPassed_211
    refine does_3 (DX.ok H.1.1 A e9 e47 fun h2 R => ?_)
    rw [i32_32, nI_add, clp (show 32 + g < 2 ^ 31 by omega)]
    refine ⟨xin_nI (by omega) (by omega), ?_⟩
    rw [if_pos ev.symm]
    exact k _ _ _ (hR h2 R)
  unfold gL_isPassed
  rw [e1, hT7.2.1]
  by_cases qg : g < G
  · rw [if_neg (fun e => by have := (nI_eq (by omega) (by omega)).mp e; omega)]
    by_cases qz : z ≤ 1000
    · rw [if_neg (show ¬ (1000 : Int32) < nI z from Int32.not_lt.mpr (n_le 1000 1000 (by decide) qz (by omega))), i32_32, nI_add, clp (show 32 + g < 2 ^ 31 by omega)]
      refine ⟨xin_nI (by omega) (by omega), ?_⟩
      have est := st_tie H T qg
      by_cases q8 : m_I S 8 g = 0
      · rw [if_pos (est.mpr q8)]
        obtain ⟨m, h12, hm, hside⟩ := side_tie H T qg
        obtain ⟨l', e0', hok, hmem, hlat⟩ := T.bd H qg
        obtain ⟨q, A', x, l, e0, a1, a2, a3, a4, a5, a6⟩ := H.pos qg
        have ex : x = (m_J L 0 (lat L g Q), m_J L 1 (lat L g Q)) := (List.cons.inj (e0.symm.trans e0')).1
        have hA := a4.1
        obtain ⟨a, b, xx, yy, hc, et, v, st, m', ps, M0, M1, p0, p1, len, ⟨ha, hb, hab, hx, hy, hxy, hc4, het, hv, hst, hsv, hm', hps, hps2, -⟩, ⟨s3, s4, s5, s6, s7, s10, s9, s8, s12, s13, s14a, s14b, s15a, s15b, s16⟩, l1, l2, l3, l4, l5, l6, l7, l8, l9, l10⟩ := gnum H T qg
        have hn8 := H.2.1.1
        have hst0 : st = 0 := by
          rcases Nat.eq_zero_or_pos st with y | y
          · exact y
          · rw [s8] at q8; exact absurd q8 (nI_ne0 y (by omega))
        have hps1 := hps2 hst0
        have hE16 : ol.length < 16 := by have := (H.ol_lt qg q8).1; omega
        have T1 : LT (ms_i S 47 0) L J n G ol.length Q N P := T.sq (Nat.le_refl J) (fun n => Sq.f)
        obtain ⟨bb, S2, L2, h1, f1, f2, f3, f4, f5, f6, f7, f8, f9, f10⟩ := clk_tie (H.sq (n := n) (S2 := ms_i S 47 0) Sq.f) T1 qg h12 hm qz
        have hsd : (bg S g + m) % 2 < 2 := Nat.mod_lt _ (by omega)
        have hbg0 : bg (ms_i S 47 0) g = bg S g := by unfold bg; rw [mI_i]
        rw [hbg0] at f2
        refine ⟨_, hside, _, latest_L (by omega) hT7.2.2.1, _, f2, ?_⟩
        have e9 : fX9_pass S (nI g) (nI z) = fX9_pass_44 S (nI g) (nI z) 0 := by
          unfold fX9_pass
          rw [isGame_X9 H, Option.bind_some, isN_nI qg (by omega), if_neg tf, isIn_X9, Option.bind_some, isIn_1000 (by omega), decide_eq_true qz, if_neg tf, if_pos (xin_nI (by omega) (by omega)), clp (show g < 2 ^ 31 by omega), if_pos q8]
        unfold fX9_pass_44 at e9
        rw [fails_0, Option.bind_some] at e9
        dsimp only at e9
        rw [if_pos rfl, if_pos (xin_nI (by omega) (by omega)), clp (show g < 2 ^ 31 by omega), mI_i, h12, sideOf_X9 (by omega) (by omega), Option.bind_some, f1, Option.bind_some, hbg0] at e9
        dsimp only at e9 ⊢
        have s2I : ∀ y, y ≠ 14 → y ≠ 15 → m_I S2 y = m_I S y := fun y h1 h2 => by rw [f8 y h1 h2, mI_i]
        have s247 : m_i S2 47 = 0 := (congrFun f5 47).trans (i47 (S := S))
        have s219 : m_i S2 19 = nI ol.length := by rw [f5, mi_i, if_neg (by omega)]; exact H.2.2.2.1.2.2.1
        cases bb with
        | true =>
          rw [if_neg tf] at e9 ⊢
          obtain ⟨S3, k1, k2⟩ := ends_12 (S := S2) (g := g) (E := ol.length) (w := 1 - (bg S g + m) % 2) (by omega) hE16 s219 (by rw [s2I 5 (by omega) (by omega)]; exact s5) (by rw [s2I 6 (by omega) (by omega)]; exact s6) (by omega) (by omega) hxy (by rw [s2I 9 (by omega) (by omega), s9, hsv hst0]; rfl)
          rw [i32_1, pk_sub (by omega), k1, Option.bind_some] at e9
          have s38 : m_I S3 8 g = nI (1 - (bg S g + m) % 2 + 1) := by
            rw [k2.2.2.1 8 (by omega) (by omega)]; unfold eW; rw [mI_i, mI_I, if_neg (by omega), mI_I, if_pos ⟨rfl, rfl⟩]
          have s347 : m_i S3 47 = 0 := by rw [k2.1]; unfold eW; rw [mi_i, if_neg (by omega), mi_I, mi_I]; exact s247
          rw [s38] at e9
          obtain ⟨h3, R3⟩ := A.get e9
          obtain ⟨L3, g1, g2, g3⟩ := f4.ended2 (Nat.le_succ J) qg hE16 (by omega) R3 (by omega) k2
          rw [i32_1, pk_sub (by omega)]
          exact ⟨L3, g1, e211 L3 _ S3 e9 s347 g3 (fun h2 R => Tie.mk' (by omega) R g2) (by omega)⟩
        | false =>
          rw [if_pos rfl] at e9 ⊢
          have el : lat L2 g Q = lat L g Q := lat_eq Q (fun k _ => by rw [f10 2 (by omega)])
          have fin := passed_in (lo := lo) (t := t) (Ls := Ls) (xs := xs) (K := K) (h := h) (z := z) (A' := A') (x := x) (hc := hc) (xx := xx) (yy := yy) (ps := ps) (m := m) hJ hP f4 qg hE16 hA
            (by rw [s2I 11 (by omega) (by omega)]; exact a3) (by rw [s2I 12 (by omega) (by omega)]; exact h12) (by rw [s2I 13 (by omega) (by omega)]; exact s13) (by rw [s2I 5 (by omega) (by omega)]; exact s5) (by rw [s2I 6 (by omega) (by omega)]; exact s6) (by rw [s2I 7 (by omega) (by omega)]; exact s7) (by rw [s2I 8 (by omega) (by omega)]; exact q8) (by rw [s2I 9 (by omega) (by omega), s9, hsv hst0, nI_0]) (by omega) (by omega) hxy hc4 hps1 hm
            (by rw [f5, mi_i, if_neg (by omega)]; exact H.2.2.2.2.2.1.1) s219 s247 (by rw [f7, mJ_i]; exact a4.2.1) (by rw [f7, mJ_i]; exact a4.2.2.1) a5 (by omega) (by rw [el, f9]; exact ex) (by rw [f10 4 (by omega)]; exact l2) (by rw [f10 4 (by omega), l3, hst0, nI_0]) (fun v S3 e => A.get e) (fun L3 v S3 y1 y2 y3 y4 => e211 L3 v S3 y1 y2 y3 y4 (by omega)) e9
          rw [el] at fin
          exact fin
      · rw [if_neg (fun y => q8 (est.mp y))]
        refine er 2 eS (by omega) ?_ rfl (by rw [cod_S, if_pos qg, if_pos qz])
        unfold fX9_pass
        rw [isGame_X9 H, Option.bind_some, isN_nI qg (by omega), if_neg tf, isIn_X9, Option.bind_some, isIn_1000 (by omega), decide_eq_true qz, if_neg tf, if_pos (xin_nI (by omega) (by omega)), clp (show g < 2 ^ 31 by omega), if_neg q8]
        exact (pass_e S _ _).2.2
    · rw [if_pos (Int32.not_le.mp (n_ge 1000 1000 (by decide) (by omega) (by omega)))]
      refine er 1 eA (by omega) ?_ rfl (by rw [cod_A, if_pos qg, if_neg qz])
      unfold fX9_pass
      rw [isGame_X9 H, Option.bind_some, isN_nI qg (by omega), if_neg tf, isIn_X9, Option.bind_some, isIn_1000 (by omega), decide_eq_false qz, if_pos rfl]
      exact (pass_e S _ _).2.1
  · rw [if_pos (by congr 1; omega)]
    refine er 0 eI (by omega) ?_ rfl (by rw [cod_I, if_neg qg])
    obtain rfl : g = G := by omega
    unfold fX9_pass
    rw [isGame_X9 H, Option.bind_some, isN_end (by omega), if_pos rfl]
    exact (pass_e S _ _).1
end PASSED
