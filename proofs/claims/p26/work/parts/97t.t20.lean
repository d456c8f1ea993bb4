/-! P26 20: the law's whole. -/
def gL_law_212 (lo t Ls : Nat) (xs : Nat → Int32) (K : Int32 → TH → MS → Prop) (h : TH) (L : MS) (a13 : Int32) : Prop :=
  (if a13 = 0 then (0 : Int32) = 1 else gL_does lo t Ls xs (fun v3 h4 L5 => (if v3 = (-200 : Int32) then gL_does lo t Ls xs (fun v9 h10 L11 => (if v9 = (-300 : Int32) then gL_does lo t Ls xs (fun v15 h16 L17 => (if v15 = (-300 : Int32) then gL_does lo t Ls xs (fun v21 h22 L23 => (if v21 = (-300 : Int32) then gL_does lo t Ls xs (fun v27 h28 L29 => (if v27 = (-300 : Int32) then gL_does lo t Ls xs (fun v33 h34 L35 => (if v33 = (-300 : Int32) then gL_does lo t Ls xs (fun v39 h40 L41 => (if v39 = (-300 : Int32) then gL_does lo t Ls xs (fun v45 h46 L47 => (if v45 = (-300 : Int32) then gL_does lo t Ls xs (fun v51 h52 L53 => (if v51 = (-300 : Int32) then (1 : Int32) = 1 else (0 : Int32) = 1)) h46 L47 (11 : Int32) (-1 : Int32) (0 : Int32) (4 : Int32) (0 : Int32) (0 : Int32) else (0 : Int32) = 1)) h40 L41 (10 : Int32) (16 : Int32) (0 : Int32) (1 : Int32) (0 : Int32) (0 : Int32) else (0 : Int32) = 1)) h34 L35 (9 : Int32) (60 : Int32) (0 : Int32) (0 : Int32) (0 : Int32) (0 : Int32) else (0 : Int32) = 1)) h28 L29 (6 : Int32) (16 : Int32) (0 : Int32) (0 : Int32) (0 : Int32) (0 : Int32) else (0 : Int32) = 1)) h22 L23 (5 : Int32) (16 : Int32) (0 : Int32) (0 : Int32) (0 : Int32) (0 : Int32) else (0 : Int32) = 1)) h16 L17 (3 : Int32) (-1 : Int32) (0 : Int32) (0 : Int32) (0 : Int32) (0 : Int32) else (0 : Int32) = 1)) h10 L11 (2 : Int32) (16 : Int32) (0 : Int32) (0 : Int32) (0 : Int32) (0 : Int32) else (0 : Int32) = 1)) h4 L5 (1 : Int32) (-1 : Int32) (0 : Int32) (0 : Int32) (0 : Int32) (0 : Int32) else (0 : Int32) = 1)) h L (0 : Int32) (-1 : Int32) (0 : Int32) (0 : Int32) (0 : Int32) (0 : Int32))
def gL_law_204 (lo t Ls : Nat) (xs : Nat → Int32) (K : Int32 → TH → MS → Prop) (k121 : TH → MS → Int32 → Int32 → Prop) (h : TH) (L : MS) (a14 : Int32) (s0 : Int32) : Prop :=
  k121 h L s0 (a14 + (1 : Int32))
def gL_law_121 (lo t Ls : Nat) (xs : Nat → Int32) (K : Int32 → TH → MS → Prop) : Nat → TH → MS → Int32 → Int32 → Prop
  | 0, _, _, _, _ => False
  | n + 1, h, L, a13, a14 =>
    (if (58 : Int32) ≤ a14 then gL_law_212 lo t Ls xs K h L a13 else (if a13 = 0 then gL_law_212 lo t Ls xs K h L a13 else gL_isDone lo t Ls xs (fun v4 h5 L6 => (if v4 = 0 then gL_law_204 lo t Ls xs K (gL_law_121 lo t Ls xs K n) h5 L6 a14 (0 : Int32) else gL_areGames lo t Ls xs (fun v10 h11 L12 => (if v10 = 0 then gL_law_204 lo t Ls xs K (gL_law_121 lo t Ls xs K n) h11 L12 a14 (0 : Int32) else gL_areNodes lo t Ls xs (fun v16 h17 L18 => (if v16 = 0 then gL_law_204 lo t Ls xs K (gL_law_121 lo t Ls xs K n) h17 L18 a14 (0 : Int32) else gL_law_204 lo t Ls xs K (gL_law_121 lo t Ls xs K n) h17 L18 a14 (1 : Int32))) h11 L12)) h5 L6)) h L ((4 : Int32) * a14)))
def gL_law_116 (lo t Ls : Nat) (xs : Nat → Int32) (K : Int32 → TH → MS → Prop) (h : TH) (L : MS) (s0 : Int32) : Prop :=
  gL_law_121 lo t Ls xs K 60 h L s0 (0 : Int32)
def gL_law (lo t Ls : Nat) (xs : Nat → Int32) (K : Int32 → TH → MS → Prop) (h : TH) (L : MS) : Prop :=
  gL_areGames lo t Ls xs (fun v2 h3 L4 => (if v2 = 0 then gL_law_116 lo t Ls xs K h3 L4 (0 : Int32) else gL_areNodes lo t Ls xs (fun v8 h9 L10 => (if v8 = 0 then gL_law_116 lo t Ls xs K h9 L10 (0 : Int32) else (t_kd h9 t = 7 ∧ ∃ v15 h16, fX8_settle h9 t = some (v15, h16) ∧ LDp lo h16 ∧ (if v15 = 0 then gL_law_116 lo t Ls xs K h16 L10 (1 : Int32) else gL_law_116 lo t Ls xs K h16 L10 (0 : Int32))))) h3 L4)) h L
def DXb (lo t : Nat) (h : TH) (L : MS) (K : Int32 → TH → MS → Prop) (r : Option ((Bool × TH) ⊕ (String × TH))) : Prop :=
  t_kd h t = 7 ∧ ((∃ v h2, r = some (.inl (v, h2)) ∧ LDp lo h2 ∧ (if v = false then K (0 : Int32) h2 L else K (1 : Int32) h2 L)) ∨ (∃ h2, r = some (.inr ("java/lang/IndexOutOfBoundsException", h2)) ∧ LDp lo h2 ∧ ∀ z, t_sz h2 ≤ z → K (-300 : Int32) (s_Z h2 z) L) ∨
    (∃ h2, r = some (.inr ("java/lang/IllegalArgumentException", h2)) ∧ LDp lo h2 ∧ ∀ z, t_sz h2 ≤ z → K (-200 : Int32) (s_Z h2 z) L) ∨ (∃ h2, r = some (.inr ("java/lang/IllegalStateException", h2)) ∧ LDp lo h2 ∧ ∀ z, t_sz h2 ≤ z → K (-100 : Int32) (s_Z h2 z) L))
theorem DXb.ex {lo t J : Nat} {h : TH} {L : MS} {K : Int32 → TH → MS → Prop} {cs : List String} {r8 : Option ((Bool × TH) ⊕ (String × TH))} {r9 : Option (Bool × MS)} (hk : t_kd h t = 7) (A : Agr lo t J cs r8 r9) {b : Bool} {S2 : MS} (e9 : r9 = some (b, S2)) (h47 : m_i S2 47 = nI 1) (hE : cs[0]? = some eI) (k : ∀ h2, RR lo t (J + 1) h2 S2 → K (-300 : Int32) h2 L) : DXb lo t h L K r8 := by
  obtain ⟨h2, S2', R, ⟨v', e8, e9', q47⟩ | ⟨j', E', b', hE', hj', e8, e9', q47⟩⟩ := A
  · rw [e9] at e9'
    cases e9'
    rw [h47] at q47
    exact absurd q47 (nI_ne0 (by omega) (by omega))
  · rw [e9] at e9'
    cases e9'
    have ej : 0 = j' := by
      have := (nI_eq (by omega) (by omega)).mp (h47.symm.trans q47)
      omega
    subst ej
    rw [hE] at hE'
    cases hE'
    exact ⟨hk, Or.inr (Or.inl ⟨h2, e8, R.ld, fun z hz => k _ (R.Z hz)⟩)⟩
section LAW
variable {lo t Ls : Nat} {xs : Nat → Int32} {K : Int32 → TH → MS → Prop} {h : TH} {L : MS}
theorem does_10 {a b d e f : Int32} (k : DXb lo t h L K (fX8_ladder h t a b d)) : gL_does lo t Ls xs K h L 10 a b d e f := by unfold gL_does; rw [if_neg (by decide), if_neg (by decide), if_neg (by decide), if_neg (by decide), if_neg (by decide), if_neg (by decide), if_neg (by decide), if_neg (by decide), if_neg (by decide), if_neg (by decide), if_pos rfl]; exact k
theorem does_11 {a b d e f : Int32} (k : DXb lo t h L K (fX8_net h t a b d)) : gL_does lo t Ls xs K h L 11 a b d e f := by unfold gL_does; rw [if_neg (by decide), if_neg (by decide), if_neg (by decide), if_neg (by decide), if_neg (by decide), if_neg (by decide), if_neg (by decide), if_neg (by decide), if_neg (by decide), if_neg (by decide), if_neg (by decide)]; exact k
theorem isN_16 {G : Nat} (hG : G ≤ 16) : isN (16 : Int32) G = false := by
  unfold isN
  rw [decide_eq_false (show ¬ (16 : Int32) < nI G from nI_nlt (b := G) (a := 16) hG (by omega)), Bool.and_false]
theorem isN_60 {N : Nat} (hN : N ≤ 60) : isN (60 : Int32) N = false := by
  unfold isN
  rw [decide_eq_false (show ¬ (60 : Int32) < nI N from nI_nlt (b := N) (a := 60) hN (by omega)), Bool.and_false]
theorem x_player (S : MS) : fX9_player S (-1) = some (0, ms_i S 47 1) := by
  unfold fX9_player
  rw [isIn_X9, Option.bind_some, if_pos (by decide)]
  unfold fX9_player_29
  rw [fails_1]; rfl
section X
variable {J : Nat} {S : MS}
theorem x_game (R : RR lo t J h S) : fX9_game S (-1) 0 0 0 0 = some (0, ms_i S 47 1) := by
  obtain ⟨c, s, n, G, N, P, gm, nd, gl, nl, ol, kp, hP, H⟩ := R
  unfold fX9_game
  rw [isPlayer_X9 H, Option.bind_some, isN_m1, if_pos rfl, game_no]
  exact (game_e S _ _ _ _ _).1
theorem x_play (R : RR lo t J h S) : fX9_play S 16 0 0 = some (0, ms_i S 47 1) := by
  obtain ⟨c, s, n, G, N, P, gm, nd, gl, nl, ol, kp, hP, H⟩ := R
  unfold fX9_play
  rw [isGame_X9 H, Option.bind_some, isN_16 H.G16, if_pos rfl]
  unfold fX9_play_20
  rw [if_pos rfl]
  exact (play_e S _ _).1
theorem x_pass (R : RR lo t J h S) : fX9_pass S (-1) 0 = some (0, ms_i S 47 1) := by
  obtain ⟨c, s, n, G, N, P, gm, nd, gl, nl, ol, kp, hP, H⟩ := R
  unfold fX9_pass
  rw [isGame_X9 H, Option.bind_some, isN_m1, if_pos rfl]
  exact (pass_e S _ _).1
theorem x_judge (R : RR lo t J h S) : fX9_judge S 16 = some (0, ms_i S 47 1) := by
  obtain ⟨c, s, n, G, N, P, gm, nd, gl, nl, ol, kp, hP, H⟩ := R
  unfold fX9_judge
  rw [isGame_X9 H, Option.bind_some, isN_16 H.G16, if_pos rfl]
  unfold fX9_judge_38
  rw [fails_1]; rfl
theorem x_lesson (R : RR lo t J h S) : fX9_lesson S 16 0 = some (0, ms_i S 47 1) := by
  obtain ⟨c, s, n, G, N, P, gm, nd, gl, nl, ol, kp, hP, H⟩ := R
  unfold fX9_lesson
  rw [isGame_X9 H, Option.bind_some, isN_16 H.G16, if_pos rfl]
  unfold fX9_lesson_47
  rw [fails_1]; rfl
theorem x_merge (R : RR lo t J h S) : fX9_merge S 60 0 = some (0, ms_i S 47 1) := by
  obtain ⟨c, s, n, G, N, P, gm, nd, gl, nl, ol, kp, hP, H⟩ := R
  unfold fX9_merge
  rw [isNode_X9 H, Option.bind_some, isN_60 H.N60, if_pos rfl]
  unfold fX9_merge_21
  rw [if_pos rfl]
  unfold fX9_merge_82
  rw [if_pos rfl]
  unfold fX9_merge_123
  rw [fails_1]; rfl
theorem x_ladder (R : RR lo t J h S) : fX9_ladder S 16 0 1 = some (false, ms_i S 47 1) := by
  obtain ⟨c, s, n, G, N, P, gm, nd, gl, nl, ol, kp, hP, H⟩ := R
  unfold fX9_ladder
  rw [isGame_X9 H, Option.bind_some, isN_16 H.G16, if_pos rfl]
  unfold fX9_ladder_20
  rw [if_pos rfl]
  unfold fX9_ladder_47
  rw [fails_1]; rfl
theorem x_net (R : RR lo t J h S) : fX9_net S (-1) 0 4 = some (false, ms_i S 47 1) := by
  obtain ⟨c, s, n, G, N, P, gm, nd, gl, nl, ol, kp, hP, H⟩ := R
  unfold fX9_net
  rw [isGame_X9 H, Option.bind_some, isN_m1, if_pos rfl]
  unfold fX9_net_20
  rw [if_pos rfl]
  unfold fX9_net_46
  rw [fails_1]; rfl
theorem law_212_ok (R : RR lo t J h S) (hJ : J ≤ 3000) : gL_law_212 lo t Ls xs K h L 1 := by
  unfold gL_law_212
  rw [if_neg (by decide)]
  refine does_0 (DX.ex R.k7 (call_player R _) csAS (x_player S) (j := 0) (E := eA) (by omega) i47 rfl fun h1 R1 => ?_)
  rw [cod_A, if_pos rfl]
  refine does_1 (DX.ex R1.k7 (call_game (by omega) R1 _ _ _ _ _) csIAS (x_game R1) (j := 0) (E := eI) (by omega) i47 rfl fun h2 R2 => ?_)
  rw [cod_I, if_pos rfl]
  refine does_2 (DX.ex R2.k7 (call_play (by omega) R2 _ _ _) csIAS (x_play R2) (j := 0) (E := eI) (by omega) i47 rfl fun h3 R3 => ?_)
  rw [cod_I, if_pos rfl]
  refine does_3 (DX.ex R3.k7 (call_pass (by omega) R3 _ _) csIAS (x_pass R3) (j := 0) (E := eI) (by omega) i47 rfl fun h4 R4 => ?_)
  rw [cod_I, if_pos rfl]
  refine does_5 (DX.ex R4.k7 (call_judge R4 _) csIS (x_judge R4) (j := 0) (E := eI) (by omega) i47 rfl fun h5 R5 => ?_)
  rw [cod_I, if_pos rfl]
  refine does_6 (DX.ex R5.k7 (call_lesson (by omega) R5 _ _) csIAS (x_lesson R5) (j := 0) (E := eI) (by omega) i47 rfl fun h6 R6 => ?_)
  rw [cod_I, if_pos rfl]
  refine does_9 (DX.ex R6.k7 (call_merge (by omega) R6 _ _) csIAS (x_merge R6) (j := 0) (E := eI) (by omega) i47 rfl fun h7 R7 => ?_)
  rw [cod_I, if_pos rfl]
  refine does_10 (DXb.ex R7.k7 (call_ladder (by omega) R7 _ _ _) (x_ladder R7) i47 rfl fun h8 R8 => ?_)
  rw [if_pos rfl]
  refine does_11 (DXb.ex R8.k7 (call_net (by omega) R8 _ _ _) (x_net R8) i47 rfl fun h9 R9 => ?_)
  rw [if_pos rfl]
end X
theorem law_121_ok (hLs : Ls < 2 ^ 31) : ∀ (d fu j : Nat) (h : TH) (S L : MS), j + d = 58 → d < fu → Tie lo t (j + 1) h S L → gL_law_121 lo t Ls xs K fu h L 1 (nI j) := by
  intro d
  induction d with
  | zero =>
    intro fu j h S L hj hf R
    obtain ⟨f, rfl⟩ : ∃ f, fu = f + 1 := ⟨fu - 1, by omega⟩
    obtain ⟨c, s, n, G, N, P, gm, nd, gl, nl, ol, kp, Q, hP, H, T⟩ := R
    rw [gL_law_121, if_pos (le_n 58 58 (by decide) (by omega) (by omega))]
    exact law_212_ok (Tie.rr H hP) (by omega)
  | succ d ih =>
    intro fu j h S L hj hf R
    obtain ⟨f, rfl⟩ : ∃ f, fu = f + 1 := ⟨fu - 1, by omega⟩
    obtain ⟨c, s, n, G, N, P, gm, nd, gl, nl, ol, kp, Q, hP, H, T⟩ := R
    rw [gL_law_121, if_neg (ge_n 58 58 (by decide) (by omega) (by omega)), if_neg (by decide), i32_4, pk_mul]
    refine isDone_ok hLs (show j + 1 ≤ 60 by omega) hP H T (by omega) fun h2 S2 L2 R2 => ?_
    obtain ⟨c2, s2, n2, G2, N2, P2, gm2, nd2, gl2, nl2, ol2, kp2, Q2, hP2, H2, T2⟩ := id R2
    rw [if_neg (by decide)]
    refine areGames_ok H2 T2 (by omega) fun z hz => ?_
    rw [if_neg (by decide)]
    refine areNodes_ok (H2.Z hz) T2 fun z2 hz2 => ?_
    rw [if_neg (by decide)]
    unfold gL_law_204
    rw [nI_1]
    exact ih f (j + 1) _ S2 L2 (by omega) (by omega) ((R2.Z hz).Z hz2)
theorem law_ok (hLs : Ls < 2 ^ 31) {S : MS} (R : Tie lo t 0 h S L) (h0 : m_i S 4 = 0) : gL_law lo t Ls xs K h L := by
  obtain ⟨c, s, n, G, N, P, gm, nd, gl, nl, ol, kp, Q, hP, H, T⟩ := id R
  have hG : G = 0 := (nI_eq (by have := H.G16; omega) (by omega)).mp ((H.2.2.1.2.2.1).symm.trans h0)
  subst hG
  unfold gL_law
  refine areGames_ok H T (by omega) fun z hz => ?_
  rw [if_neg (by decide)]
  refine areNodes_ok (H.Z hz) T fun z2 hz2 => ?_
  rw [if_neg (by decide)]
  have Hz := (H.Z hz).Z hz2
  obtain ⟨v, h2, S2, e8, e9, R2, h47⟩ := call_settle (K := 0) (Tie.rr Hz hP)
  have H1 := Hz.sq (n := n) (S2 := ms_i S 47 0) Sq.f
  obtain ⟨S1, m1, m2, m3⟩ := off_X9 H1
  have e0 : fX9_settle S = some (0, S1) := by
    unfold fX9_settle
    rw [m1, Option.bind_some]
    obtain ⟨f, hf⟩ := FU_s
    rw [hf, fX9_settle_12, if_pos (show (ofs (ms_i S 47 0) ol 0, S1).fst = 0 from rfl)]
  rw [e9] at e0
  obtain ⟨ev, eS⟩ := Prod.mk.inj (Option.some.inj e0)
  subst ev eS
  refine ⟨Hz.1.1, _, h2, e8, R2.ld, ?_⟩
  rw [if_pos rfl]
  unfold gL_law_116
  have hs : Sq n S S2 := Sq.tr Sq.f m2
  exact law_121_ok hLs 58 60 0 h2 S2 L (by omega) (by omega) (Tie.mk' (by omega) R2 (T.sq (Nat.le_succ 0) (fun _ => hs)))
/-- nothing yet -/
theorem tie_0 (R : RR lo t 0 h msZ) : Tie lo t 0 h msZ msZ :=
  Tie.mk' (by omega) R (n := 0) (G := 0) (E := 0) (Q := 0) (N := 0) (P := 0) ⟨⟨rfl, rfl, rfl, rfl, rfl⟩, ⟨by omega, by omega, by omega, by omega, by omega, by omega⟩, ⟨rfl, rfl, rfl, rfl, rfl⟩, fun a ha => by omega, fun g hg => by omega, fun g _ _ => ⟨rfl, rfl, fun j hj => by omega⟩, fun j hj => by omega, fun i hi => by omega⟩
end LAW
