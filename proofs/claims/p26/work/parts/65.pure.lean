/-! PURE 20: more calls that change nothing. -/
theorem inR_ex {x : Int32} {a b : Nat} (ha : a < 1000) (hb : b < 10000) (h : inR x (nI a) (nI b) = true) : ∃ k, a ≤ k ∧ k ≤ b ∧ x = nI k := by
  unfold inR at h
  rw [Bool.and_eq_true, decide_eq_true_eq, decide_eq_true_eq] at h
  have h0 : ¬ x < 0 := Int32.not_lt.mpr (Int32.le_trans (nI_pos' (by omega)) h.1)
  obtain ⟨j, hj, rfl⟩ := nI_of h0
  exact ⟨j, (nI_leI (by omega) hj).mp h.1, (nI_leI hj (by omega)).mp h.2, rfl⟩
section SIMPLE2
variable {u mo : Nat} {h : TH} {S : MS} {t c s n G N P : Nat} {gm nd : Nat → Nat} {gl nl : Nat → List BW} {ol : List Nat} {kp : Nat → Bool}
theorem lead_X3 (H : Rel u mo h S t c s n G N P gm nd gl nl ol kp) {g : Nat} (hg : g < G) {q : Nat} {x : BW} {l : List BW} (h6 : t_R h (gm g) 6 = some q) (hW : WH h (bg S g) q (x :: l)) (hx : OKB x) : fX3_lead h (gm g) = some (Int32.ofInt (sco x - if m_I S 7 g = 0 then 6 else 0)) := by
  obtain ⟨hk, -, -, a, b, hc, -, -, h7, ha, hb, -, hc4, h2, -⟩ := (H.gM hg).2.1
  have e16 : ∀ v : Int32, fX3_lead_16 h (gm g) v = some (Int32.ofInt (sco x) - v) := fun v => by
    unfold fX3_lead_16
    rw [if_pos hk, h6, Option.bind_some, if_pos hW.1, hW.2.1, hW.2.2.1, lead_X0 hx, Option.bind_some]
  unfold fX3_lead
  rw [if_pos hk, h2, i32_10, pk_rem (by omega) (by omega) (by omega), show (100 * a + 10 * b + hc) % 10 = hc by omega, h7, e16, e16]
  by_cases h0 : hc = 0
  · subst h0
    rw [if_pos n00, if_pos n00, show (6 : Int32) = Int32.ofInt 6 from rfl, zsub]
  · have hne : ¬ nI hc = 0 := nI_ne0 (by omega) (by omega)
    rw [if_neg hne, if_neg hne, show (0 : Int32) = Int32.ofInt 0 from rfl, zsub]
theorem score_ok (H : Rel u mo h S t c s n G N P gm nd gl nl ol kp) (hP : P ≤ 4096) {g : Nat} (hg : g < G) : ∃ v, fX3_lead h (gm g) = some v ∧ fX9_scoreOf S (nI g) = some v := by
  obtain ⟨q, L, x, l, -, a1, a2, a3, a4, a5, a6⟩ := H.pos hg
  have h16 := H.G16
  have hL := a4.1
  exact ⟨_, lead_X3 H hg a1 a2 a5, scoreOf_X9 (by omega) a3 (by omega) a4.2.1 a4.2.2.1 a5⟩
theorem call_score {K : Nat} (hK : K ≤ 4000) (H0 : RR mo t K h S) (x : Int32) : Agr mo t K [eI] (fX8_score h t x) (fX9_score S x) := by
  obtain ⟨c, s, n, G, N, P, gm, nd, gl, nl, ol, kp, hP, H⟩ := id H0
  have h16 := H.G16
  unfold fX8_score fX9_score fX9_score_14
  rw [if_pos H.1.1, isGame_X9 H, Option.bind_some]
  rcases matchOf_X8 H x with ⟨g, hg, rfl, e⟩ | ⟨e1, e⟩
  · have e47 : Sq n S (ms_i S 47 0) := Sq.f
    obtain ⟨v, v1, v2⟩ := score_ok (H.sq e47) (by omega) hg
    refine Agr.same H0 (fun n => Sq.f) (v := v) (S2 := ms_i S 47 0) ?_ ?_ i47
    · rw [e, Option.bind_some, xcs_1]
      dsimp only
      rw [Option.bind_some, if_pos (H.gM hg).k3, v1, Option.bind_some]
    · rw [isN_nI hg (by omega), if_neg tf, fails_0, Option.bind_some]
      dsimp only
      rw [if_pos rfl, v2, Option.bind_some]
  · refine Agr.err H0 (fun n => Sq.f) (j := 0) (E := eI) (b := 0) (S2 := ms_i S 47 1) rfl (by omega) ?_ ?_ i47
    · rw [e, Option.bind_some, xcs_2]
    · rw [e1, if_pos rfl, fails_1]; rfl
/-- the kept liberties and the flooded ones -/
theorem libs_err {x y : Int32} : fX9_libertiesOf_21 S x y 1 = some (0, ms_i S 47 1) := by unfold fX9_libertiesOf_21; rw [fails_1]; rfl
theorem libs_ok (H : Rel u mo h S t c s n G N P gm nd gl nl ol kp) (hP : P ≤ 4096) {g p : Nat} (hg : g < G) (hp : p < 49) {b : BW} {l : List BW} {L : Nat} (a3 : m_I S 11 g = nI L) (a4 : WM S P L (b :: l)) (a5 : OKB b) : fX9_libertiesOf_21 S (nI g) (nI p) 0 = some (nI (lbc b p), ms_i S 47 0) := by
  have h16 := H.G16
  have hL := a4.1
  unfold fX9_libertiesOf_21
  rw [fails_0, Option.bind_some]
  dsimp only
  rw [if_pos rfl, if_pos (xin_nI (show g < 16 by omega) (by omega)), clp (show g < 2 ^ 31 by omega), mI_i, mJ_i, a3, if_pos (xin_nI (show L < 4096 by omega) (by omega)), clp (show L < 2 ^ 31 by omega), a4.2.1, a4.2.2.1, chainAt_X9 a5 hp, Option.bind_some, free_X9, Option.bind_some, bits_X9, Option.bind_some]
  rfl
theorem call_liberties {K : Nat} (hK : K ≤ 4000) (H0 : RR mo t K h S) (x y : Int32) : Agr mo t K [eI] (fX8_liberties h t x y) (fX9_liberties S x y) := by
  obtain ⟨c, s, n, G, N, P, gm, nd, gl, nl, ol, kp, hP, H⟩ := id H0
  have h16 := H.G16
  unfold fX8_liberties fX9_liberties fX9_libertiesOf
  rw [if_pos H.1.1, isGame_X9 H, Option.bind_some]
  have err : ∀ r8, r8 = some (.inr (eI, h)) → Agr (α := Int32) mo t K [eI] r8 ((fX9_libertiesOf_21 S x y 1).bind fun q1 => some (q1.1, q1.2)) :=
    fun r8 h8 => Agr.err H0 (fun n => Sq.f) (j := 0) (E := eI) (b := 0) (S2 := ms_i S 47 1) rfl (by omega) h8 (by rw [libs_err]; rfl) i47
  rcases matchOf_X8 H x with ⟨g, hg, rfl, e⟩ | ⟨e1, e⟩
  · rw [isN_nI hg (by omega), if_neg tf, isPoint_X9, Option.bind_some, e, Option.bind_some, xcs_1]
    dsimp only
    rw [point_X8, Option.bind_some]
    rcases isN_cases (x := y) (n := 49) (by omega) with hy | ⟨p, hp, rfl⟩
    · rw [hy, if_pos rfl, if_neg ff, xcs_2]
      exact err _ rfl
    · obtain ⟨q, L, b, l, e0, a1, a2, a3, a4, a5, a6⟩ := H.pos hg
      have hpm := (H.pm hg).2.2.2.2.2.2
      rw [isN_nI hp (by omega), if_pos rfl, if_neg tf, xcs_1, libs_ok H (by omega) hg hp a3 a4 a5]
      refine Agr.same H0 (fun n => Sq.f) (v := nI (lbc b p)) (S2 := ms_i S 47 0) ?_ rfl i47
      rw [Option.bind_some, if_pos (H.gM hg).k3]
      unfold fX3_keptLiberties
      rw [if_neg (nI_pos (by omega)), if_pos (H.gM hg).k3, hpm.1, Option.bind_some, if_pos hpm.2.1, hpm.2.2.1, if_pos (nI_lt hp (by omega)), if_pos (xin_nI hp (by omega)), clp (by omega), hpm.2.2.2 b (by rw [e0]; rfl) p hp]
      rfl
  · rw [e1, if_pos rfl]
    refine err _ ?_
    rw [e, Option.bind_some, xcs_2]
theorem call_flooded {K : Nat} (hK : K ≤ 4000) (H0 : RR mo t K h S) (x y : Int32) : Agr mo t K [eI] (fX8_flooded h t x y) (fX9_flooded S x y) := by
  obtain ⟨c, s, n, G, N, P, gm, nd, gl, nl, ol, kp, hP, H⟩ := id H0
  have h16 := H.G16
  unfold fX8_flooded fX9_flooded fX9_libertiesOf
  rw [if_pos H.1.1, isGame_X9 H, Option.bind_some]
  have err : ∀ r8, r8 = some (.inr (eI, h)) → Agr (α := Int32) mo t K [eI] r8 ((fX9_libertiesOf_21 S x y 1).bind fun q1 => some (q1.1, q1.2)) :=
    fun r8 h8 => Agr.err H0 (fun n => Sq.f) (j := 0) (E := eI) (b := 0) (S2 := ms_i S 47 1) rfl (by omega) h8 (by rw [libs_err]; rfl) i47
  rcases matchOf_X8 H x with ⟨g, hg, rfl, e⟩ | ⟨e1, e⟩
  · rw [isN_nI hg (by omega), if_neg tf, isPoint_X9, Option.bind_some, e, Option.bind_some, xcs_1]
    dsimp only
    rw [point_X8, Option.bind_some]
    rcases isN_cases (x := y) (n := 49) (by omega) with hy | ⟨p, hp, rfl⟩
    · rw [hy, if_pos rfl, if_neg ff, xcs_2]
      exact err _ rfl
    · obtain ⟨q, L, b, l, e0, a1, a2, a3, a4, a5, a6⟩ := H.pos hg
      rw [isN_nI hp (by omega), if_pos rfl, if_neg tf, xcs_1, libs_ok H (by omega) hg hp a3 a4 a5]
      refine Agr.same H0 (fun n => Sq.f) (v := nI (lbc b p)) (S2 := ms_i S 47 0) ?_ rfl i47
      rw [Option.bind_some, if_pos (H.gM hg).k3, a1, Option.bind_some, if_pos a2.1, countLiberties_X4 a2.1 a2.2.1 a2.2.2.1 a5 hp, Option.bind_some]
  · rw [e1, if_pos rfl]
    refine err _ ?_
    rw [e, Option.bind_some, xcs_2]
theorem call_rank {K : Nat} (H0 : RR mo t K h S) (x : Int32) : Agr mo t K [eI] (fX8_rank h t x) (fX9_rank S x) := by
  obtain ⟨c, s, n, G, N, P, gm, nd, gl, nl, ol, kp, hP, H⟩ := id H0
  have h8 := H.2.1.1
  unfold fX8_rank fX9_rank fX9_rank_14
  rw [if_pos H.1.1, isPlayer_X9 H, Option.bind_some, requirePlayer_X8 H, Option.bind_some]
  rcases isN_cases (x := x) (n := n) (by omega) with hx | ⟨a, ha, rfl⟩
  · rw [hx, if_neg ff, if_pos rfl, xcs_2]
    exact Agr.err H0 (fun n => Sq.f) (j := 0) (E := eI) (b := 0) (S2 := ms_i S 47 1) rfl (by omega) rfl (by rw [fails_1]; rfl) i47
  · rw [isN_nI ha (by omega), if_pos rfl, if_neg tf, xcs_1, if_pos H.1.1, H.1.2.1, Option.bind_some, if_pos H.cb.1]
    have hr1 := H.2.1.2.2.2 a ha
    have hol := H.2.2.2.1.2.1
    have hlen : (ol.filter kp).length ≤ 16 := Nat.le_trans (List.length_filter_le _ _) hol
    have hst := standing_X2 (S := S) (gm := gm) H.cb (show a < 8 by omega) hlen H.2.2.2.1.2.2.2.2.2.2.2.1 (fun g hg => H.mg (List.mem_filter.mp hg).1) hr1.2 hr1.1
    have hf : stdF S a (ol.filter kp) = stdF S a ol := gfold_filter _ _ (fun g hg hk => H.2.2.2.1.2.2.2.2.2.2.2.2.1 g hg hk)
    rw [hf] at hst
    rw [H.2.2.2.1.2.2.2.2.2.2.1, hst, Option.bind_some]
    refine Agr.same H0 (fun n => Sq.f) (v := told2 (stdF S a ol)) (S2 := ms_i S 47 0) rfl ?_ i47
    rw [fails_0, Option.bind_some]
    dsimp only
    have hk := H.rky.p h8 ha
    have k1 : m_I S 1 a = (stdF S a ol).1 := congrArg Prod.fst hk
    have k2 : m_I S 2 a = (stdF S a ol).2 := congrArg Prod.snd hk
    rw [if_pos rfl, if_pos (xin_nI (show a < 8 by omega) (by omega)), clp (show a < 2 ^ 31 by omega), mI_i, k1, k2]
    unfold fX9_rank_57 told2
    by_cases h0 : 0 ≤ (stdF S a ol).2
    · rw [if_pos h0, if_pos h0]
    · rw [if_neg h0, if_neg h0]
/-- reading -/
theorem call_read {K : Nat} (hK : K ≤ 4000) (H0 : RR mo t K h S) (x y m al : Int32) (hal : al = 2 ∨ al = 3) {B : Nat} (hB : B ≤ 8) {r8 : Option ((Bool × TH) ⊕ (String × TH))} {r9 : Option (Bool × MS)} {f9 : Int32 → Option (Bool × MS)} {j20 : Int32 → Option (Bool × MS)}
    (h8 : r8 = (if t_kd h t = 7 then (fX8_matchOf h t x).bind fun q2 => xcs q2 fun a_3 => (fX8_requirePoint a_3.2 y).bind fun q5 => xcs q5 fun a_6 => (fX8_requireRange a_6 m 1 (nI B)).bind fun q8 => xcs q8 fun a_9 => a_3.1.bind fun p11 => (if t_kd a_9 p11 = 3 then (t_R a_9 p11 6).bind fun p13 => (if t_kd a_9 p13 = 4 then (fX4_canBeCaught a_9 p13 y m al).bind fun q15 => some (.inl (q15, a_9)) else none) else none) else none))
    (h9 : r9 = (fX9_isGame S x).bind fun q1 => (if q1 = false then j20 0 else (fX9_isPoint y).bind fun q3 => (if q3 = false then j20 0 else j20 1)))
    (hj : ∀ s0, j20 s0 = (if s0 = 0 then f9 1 else (fX9_isIn m 1 (nI B)).bind fun q2 => (if q2 = false then f9 2 else f9 0)))
    (hf : ∀ s1, f9 s1 = ((fX9_fails S s1).bind fun q1 => (if q1.1 = false then (fX9_reads q1.2 x y m al).bind fun q3 => (if q3.1 = false then some (false, q3.2) else some (true, q3.2)) else some (false, q1.2)))) : Agr mo t K [eI, eA] r8 r9 := by
  obtain ⟨c, s, n, G, N, P, gm, nd, gl, nl, ol, kp, hP, H⟩ := id H0
  have h16 := H.G16
  subst h8 h9
  rw [if_pos H.1.1, isGame_X9 H, Option.bind_some]
  have err : ∀ r8, r8 = some (.inr (eI, h)) → Agr (α := Bool) mo t K [eI, eA] r8 (j20 0) :=
    fun r8 h8 => Agr.err H0 (fun n => Sq.f) (j := 0) (E := eI) (b := false) (S2 := ms_i S 47 1) rfl (by omega) h8 (by rw [hj, if_pos rfl, hf, fails_1]; rfl) i47
  rcases matchOf_X8 H x with ⟨g, hg, rfl, e⟩ | ⟨e1, e⟩
  · rw [isN_nI hg (by omega), if_neg tf, isPoint_X9, Option.bind_some, e, Option.bind_some, xcs_1]
    dsimp only
    rw [point_X8, Option.bind_some]
    rcases isN_cases (x := y) (n := 49) (by omega) with hy | ⟨p, hp, rfl⟩
    · rw [hy, if_pos rfl, if_neg ff, xcs_2]
      exact err _ rfl
    · rw [isN_nI hp (by omega), if_pos rfl, if_neg tf, xcs_1, range_X8, Option.bind_some, hj, if_neg (show ¬ (1 : Int32) = 0 by decide), isIn_X9, Option.bind_some]
      have hR : (decide ((1 : Int32) ≤ m) && decide (m ≤ nI B)) = inR m 1 (nI B) := rfl
      rw [hR]
      cases hr : inR m 1 (nI B)
      · rw [if_neg ff, xcs_2, if_pos rfl]
        exact Agr.err H0 (fun n => Sq.f) (j := 1) (E := eA) (b := false) (S2 := ms_i S 47 2) rfl (by omega) rfl (by rw [hf, fails_2]; rfl) i47
      · rw [if_pos rfl, xcs_1, if_neg tf]
        obtain ⟨k, hk1, hk2, rfl⟩ := inR_ex (a := 1) (by omega) (by omega) hr
        obtain ⟨M, rfl⟩ : ∃ M, k = M + 1 := ⟨k - 1, by omega⟩
        obtain ⟨q, L, b, l, e0, a1, a2, a3, a4, a5, a6⟩ := H.pos hg
        have e47 : Sq n S (ms_i S 47 0) := Sq.f
        obtain ⟨S2, r1, r2, r3⟩ := reads_X9 (S := ms_i S 47 0) (g := g) (L := L) (P := P) (p := p) (M := M) (x := b) (l := l) (al := al) (by omega) (by omega) a3 (WM.sq e47 _ _ a4) a5 hp (by omega) hal
        refine Agr.same H0 (fun n => Sq.f.tr (r2 n)) (v := rdg b p (M + 1) al) (S2 := S2) ?_ ?_ (r3.trans i47)
        · rw [Option.bind_some, if_pos (H.gM hg).k3, a1, Option.bind_some, if_pos a2.1, canBeCaught_X4 a2.1 a2.2.1 a2.2.2.1 a5 hp (by omega) al, Option.bind_some]
        · rw [hf, fails_0, Option.bind_some]
          dsimp only
          rw [if_pos rfl, r1, Option.bind_some]
          dsimp only
          cases rdg b p (M + 1) al
          · rw [if_pos rfl]
          · rw [if_neg tf]
  · rw [e1, if_pos rfl]
    refine err _ ?_
    rw [e, Option.bind_some, xcs_2]
theorem call_ladder {K : Nat} (hK : K ≤ 4000) (H0 : RR mo t K h S) (x y m : Int32) : Agr mo t K [eI, eA] (fX8_ladder h t x y m) (fX9_ladder S x y m) :=
  call_read hK H0 x y m 2 (Or.inl rfl) (B := 8) (by omega) rfl rfl (j20 := fX9_ladder_20 S x y m) (f9 := fX9_ladder_47 S x y m) (fun _ => rfl) (fun _ => rfl)
theorem call_net {K : Nat} (hK : K ≤ 4000) (H0 : RR mo t K h S) (x y m : Int32) : Agr mo t K [eI, eA] (fX8_net h t x y m) (fX9_net S x y m) :=
  call_read hK H0 x y m 3 (Or.inr rfl) (B := 3) (by omega) rfl rfl (j20 := fX9_net_20 S x y m) (f9 := fX9_net_46 S x y m) (fun _ => rfl) (fun _ => rfl)
end SIMPLE2
