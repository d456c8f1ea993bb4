/-! P26 12: resigning, judging. -/
section RESIGN
variable {lo : Nat} {h : TH} {S L : MS} {t c s n G N P Q J : Nat} {gm nd : Nat → Nat} {gl nl : Nat → List BW} {ol : List Nat} {kp : Nat → Bool}
variable {Ls : Nat} {xs : Nat → Int32} {K : Int32 → TH → MS → Prop}
theorem side_tie (H : Rel 16 lo h S t c s n G N P gm nd gl nl ol kp) (T : LT S L J n G ol.length Q N P) {g : Nat} (hg : g < G) : ∃ m, m_I S 12 g = nI m ∧ m ≤ 4000 ∧ fL_side L (nI g) = some (nI ((bg S g + m) % 2)) := by
  have h16 := H.G16
  have hn8 := H.2.1.1
  obtain ⟨a, b, x, y, hc, et, v, st, m, ps, M0, M1, p0, p1, len, ⟨ha, hb, hab, hx, hy, hxy, hc4, het, hv, hst, hsv, hm, hps, -⟩, ⟨s3, s4, s5, s6, s7, s10, s9, s8, s12, s13, s14a, s14b, s15a, s15b, s16⟩, l1, l2, l3, l4, l5, l6, l7, l8, l9, l10⟩ := gnum H T hg
  refine ⟨m, s12, hm, ?_⟩
  rw [side_L (by omega) hc4 (by omega) (by omega) (by omega) l2 l9]
  have e : bg S g = if hc ≤ 1 then 0 else 1 := by
    unfold bg
    rw [s7]
    by_cases q : hc ≤ 1
    · rw [if_pos (n_le 1 1 (by decide) q (by omega)), if_pos q]
    · rw [if_neg (n_ge 1 1 (by decide) (by omega) (by omega)), if_neg q]
  rw [e]
/-- how a game stands, in the law's rows -/
theorem st_tie (H : Rel 16 lo h S t c s n G N P gm nd gl nl ol kp) (T : LT S L J n G ol.length Q N P) {g : Nat} (hg : g < G) : m_I L 4 (32 + g) ≤ 0 ↔ m_I S 8 g = 0 := by
  obtain ⟨a, b, x, y, hc, et, v, st, m, ps, M0, M1, p0, p1, len, ⟨ha, hb, hab, hx, hy, hxy, hc4, het, hv, hst, hsv, hm, hps, -⟩, ⟨s3, s4, s5, s6, s7, s10, s9, s8, s12, s13, s14a, s14b, s15a, s15b, s16⟩, l1, l2, l3, l4, l5, l6, l7, l8, l9, l10⟩ := gnum H T hg
  rw [l3, s8]
  rcases Nat.eq_zero_or_pos st with q | q
  · subst q; exact ⟨fun _ => rfl, fun _ => by decide⟩
  · exact ⟨fun e => absurd e (nI_nle q (by omega)), fun e => absurd e (nI_ne0 q (by omega))⟩
theorem resign_ok (hJ : J ≤ 60) (hP : P ≤ J) (H : Rel 16 lo h S t c s n G N P gm nd gl nl ol kp) (T : LT S L J n G ol.length Q N P) {g : Nat} (hg : g ≤ G) (k : ∀ h2 S2 L2, Tie lo t (J + 1) h2 S2 L2 → K 1 h2 L2) :
    (¬ g < G → gL_isDone_482 lo t Ls xs K h L (nI g) (-300 : Int32)) ∧ (g < G → ¬ m_I S 8 g = 0 → gL_isDone_482 lo t Ls xs K h L (nI g) (-100 : Int32)) ∧
    (∀ m, g < G → m_I S 8 g = 0 → m_I S 12 g = nI m → m ≤ 4000 → gL_isDone_482 lo t Ls xs K h L (nI g) ((2 : Int32) - nI ((bg S g + m) % 2))) := by
  have h16 := H.G16
  have A := call_resign (K := J) (by omega) (Tie.rr H hP) (nI g)
  have e506 : ∀ (L2 : MS) (due : Int32), DX lo t h L2 (fun v2 h3 L4 => (if v2 = due then K (1 : Int32) h3 L4 else K (0 : Int32) h3 L4)) (fX8_resign h t (nI g)) → gL_isDone_506 lo t Ls xs K h L2 (nI g) due := fun L2 due k => by
    unfold gL_isDone_506
    exact does_4 k
  have sq : ∀ v : Int32, LT (ms_i S 47 v) L (J + 1) n G ol.length Q N P := fun v => T.sq (Nat.le_succ J) (fun n => Sq.f)
  refine ⟨fun q => ?_, fun q q8 => ?_, fun m q q8 h12 hm => ?_⟩
  · obtain rfl : g = G := by omega
    have e9 : fX9_resign S (nI g) = some (0, ms_i S 47 1) := by
      unfold fX9_resign
      rw [isGame_X9 H, Option.bind_some, isN_end (by omega), if_pos rfl]
      unfold fX9_resign_29
      rw [fails_1]; rfl
    unfold gL_isDone_482
    rw [if_pos (by decide)]
    refine e506 _ _ (DX.ex H.1.1 A csIS e9 (j := 0) (E := eI) (by omega) i47 rfl fun h2 R => ?_)
    rw [cod_I, if_pos rfl]
    exact k h2 _ _ (Tie.mk' (by omega) R (sq 1))
  · have e9 : fX9_resign S (nI g) = some (0, ms_i S 47 2) := by
      unfold fX9_resign
      rw [isGame_X9 H, Option.bind_some, isN_nI q (by omega), if_neg tf, if_pos (xin_nI (by omega) (by omega)), clp (by omega), if_neg q8]
      unfold fX9_resign_29
      rw [fails_2]; rfl
    unfold gL_isDone_482
    rw [if_pos (by decide)]
    refine e506 _ _ (DX.ex H.1.1 A csIS e9 (j := 1) (E := eS) (by omega) i47 rfl fun h2 R => ?_)
    rw [cod_S, if_pos rfl]
    exact k h2 _ _ (Tie.mk' (by omega) R (sq 2))
  · have H1 := H.sq (n := n) (S2 := ms_i S 47 0) Sq.f
    have T1 : LT (ms_i S 47 0) L J n G ol.length Q N P := T.sq (Nat.le_refl J) (fun n => Sq.f)
    have hsd : (bg S g + m) % 2 < 2 := Nat.mod_lt _ (by omega)
    generalize hsd2 : (bg S g + m) % 2 = sd at hsd ⊢
    have q8' : m_I (ms_i S 47 0) 8 g = 0 := q8
    obtain ⟨h2, S2, kp2, k1, k2, k3, k4, k5, k6, k7, k8, k9, k10⟩ := ends_E H1 q (w := 1 - sd) q8' (by omega)
    obtain ⟨L2, f1, f2, f3⟩ := LT.ended H1 T1 (Nat.le_succ J) q q8' (w := 1 - sd) (by omega) k3 k10
    have e9 : fX9_resign S (nI g) = some (nI (1 - sd + 1), S2) := by
      unfold fX9_resign
      rw [isGame_X9 H, Option.bind_some, isN_nI q (by omega), if_neg tf, if_pos (xin_nI (by omega) (by omega)), clp (by omega), if_pos q8]
      unfold fX9_resign_29
      rw [fails_0, Option.bind_some]
      dsimp only
      rw [if_pos rfl, if_pos (xin_nI (by omega) (by omega)), clp (by omega), mI_i, h12, sideOf_X9 (by omega) (by omega), Option.bind_some, show bg (ms_i S 47 0) g = bg S g from rfl, hsd2, i32_1, pk_sub (by omega), k2, Option.bind_some, k5]
    have e2 : (2 : Int32) - nI sd = nI (1 - sd + 1) := by rw [i32_2, pk_sub (by omega)]; congr 1; omega
    rw [e2]
    unfold gL_isDone_482
    rw [if_neg (nI_nle (by omega) (by omega)), show nI (1 - sd + 1) - 1 = nI (1 - sd) from nI_pred _]
    refine ⟨L2, f1, ?_⟩
    refine e506 _ _ (DX.ok H.1.1 A e9 (k4.trans (i47 (S := S))) fun h2 R => ?_)
    rw [if_pos rfl]
    exact k h2 _ _ (Tie.mk' (by omega) R f2)
/-! judging -/
theorem judge_ok (hJ : J ≤ 60) (hP : P ≤ J) (H : Rel 16 lo h S t c s n G N P gm nd gl nl ol kp) (T : LT S L J n G ol.length Q N P) {g : Nat} (hg : g ≤ G) (k : ∀ h2 S2 L2, Tie lo t (J + 1) h2 S2 L2 → K 1 h2 L2) :
    gL_isDone_573 lo t Ls xs K h L (nI g) (if g < G ∧ ¬ m_I S 8 g = 0 ∧ m_I S 9 g = 0 then 1 else 0) := by
  have h16 := H.G16
  have hT7 := T.2.2.1
  have A := call_judge (K := J) (Tie.rr H hP) (nI g)
  have sq : ∀ v : Int32, LT (ms_i S 47 v) L (J + 1) n G ol.length Q N P := fun v => T.sq (Nat.le_succ J) (fun n => Sq.f)
  have e1 : (1 : Int32).toNatClampNeg = 1 := by decide
  by_cases q : g < G ∧ ¬ m_I S 8 g = 0 ∧ m_I S 9 g = 0
  · obtain ⟨q0, q8, q9⟩ := q
    rw [if_pos ⟨q0, q8, q9⟩]
    have H1 := H.sq (n := n) (S2 := ms_i S 47 0) Sq.f
    have T1 : LT (ms_i S 47 0) L J n G ol.length Q N P := T.sq (Nat.le_refl J) (fun n => Sq.f)
    obtain ⟨kp2, S2, k1, k2, k3, -, k5⟩ := void_E H1 q0
    have v1 : vS (ms_i S 47 0) g ol.length = ms_I (ms_i S 47 0) 9 g 1 := by unfold vS; exact if_neg q8
    have v3 : vO (ms_i S 47 0) g ol = ol := by unfold vO; exact if_neg q8
    have v4 : vW L (ms_i S 47 0) g ol.length = ms_I L 4 (48 + g) (m_I L 4 (48 + g) + 1) := by unfold vW; exact if_neg q8
    obtain ⟨L2, f1, f2⟩ := LT.voided H1 T1 (Nat.le_succ J) q0 (show m_I (ms_i S 47 0) 9 g = 0 from q9) k2 k5
    rw [v1] at k1
    rw [v3] at k2 f1 f2
    rw [v4] at f1
    obtain ⟨S3, m1, m2, m3⟩ := off_X9 k2
    have e9 : fX9_judge S (nI g) = some (ofs S2 ol G, S3) := by
      unfold fX9_judge
      rw [isGame_X9 H, Option.bind_some, isN_nI q0 (by omega), if_neg tf, if_pos (xin_nI (by omega) (by omega)), clp (by omega), if_neg q8, if_pos q9]
      unfold fX9_judge_38
      rw [fails_0, Option.bind_some]
      dsimp only
      rw [if_pos rfl, if_pos (xin_nI (by omega) (by omega)), clp (by omega), k1, Option.bind_some, m1, Option.bind_some]
    have hoff := off_L (LT.lk k2 f2) (LT.lr k2 f2) f2.2.2.1.2.2.2.1 f2.2.2.1.2.1 h16 (fun g hg => LT.gb k2 f2 hg)
    unfold gL_isDone_573
    rw [if_neg (by decide), i32_48, nI_add, clp (show 48 + g < 2 ^ 31 by omega), show (3 : Int32).toNatClampNeg = 3 by decide]
    refine ⟨xin_nI (by omega) (by omega), _, rfl, L2, ?_, ?_⟩
    · rw [mI_I, if_neg (by omega), hT7.2.2.2.1]; exact f1
    · unfold gL_isDone_607
      refine does_5 (DX.ok H.1.1 A e9 ((m3.trans k3).trans (i47 (S := S))) fun h2 R => ?_)
      rw [e1, f2.2.2.1.2.1, if_neg (fun e => by have := (nI_eq (by omega) (by omega)).mp e; omega), if_neg (by decide)]
      refine ⟨_, hoff, ?_⟩
      unfold gL_isDone_654
      rw [if_pos rfl]
      exact k h2 _ _ (Tie.mk' (by omega) R (f2.sq (Nat.le_refl _) (fun _ => m2)))
  · rw [if_neg q]
    unfold gL_isDone_573
    rw [if_pos rfl]
    unfold gL_isDone_607
    by_cases q0 : g < G
    · have e9 : fX9_judge S (nI g) = some (0, ms_i S 47 2) := by
        unfold fX9_judge
        rw [isGame_X9 H, Option.bind_some, isN_nI q0 (by omega), if_neg tf, if_pos (xin_nI (by omega) (by omega)), clp (by omega)]
        have e38 : fX9_judge_38 S (nI g) 2 = some (0, ms_i S 47 2) := by unfold fX9_judge_38; rw [fails_2]; rfl
        by_cases q8 : m_I S 8 g = 0
        · rw [if_pos q8, e38]
        · rw [if_neg q8, if_neg (fun z => q ⟨q0, q8, z⟩), e38]
      refine does_5 (DX.ex H.1.1 A csIS e9 (j := 1) (E := eS) (by omega) i47 rfl fun h2 R => ?_)
      rw [cod_S, e1, hT7.2.1, if_neg (fun e => by have := (nI_eq (by omega) (by omega)).mp e; omega), if_pos rfl]
      unfold gL_isDone_654
      rw [if_pos rfl]
      exact k h2 _ _ (Tie.mk' (by omega) R (sq 2))
    · obtain rfl : g = G := by omega
      have e9 : fX9_judge S (nI g) = some (0, ms_i S 47 1) := by
        unfold fX9_judge
        rw [isGame_X9 H, Option.bind_some, isN_end (by omega), if_pos rfl]
        unfold fX9_judge_38
        rw [fails_1]; rfl
      refine does_5 (DX.ex H.1.1 A csIS e9 (j := 0) (E := eI) (by omega) i47 rfl fun h2 R => ?_)
      rw [cod_I, e1, hT7.2.1, if_pos rfl]
      unfold gL_isDone_654
      rw [if_pos rfl]
      exact k h2 _ _ (Tie.mk' (by omega) R (sq 1))
end RESIGN
