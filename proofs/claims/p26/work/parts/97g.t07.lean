/-! P26 7: one call more: what does comes to; the tie when the reference changes nothing; a player more. -/
def DX (lo t : Nat) (h : TH) (L : MS) (K : Int32 → TH → MS → Prop) (r : Option ((Int32 × TH) ⊕ (String × TH))) : Prop :=
  t_kd h t = 7 ∧ ((∃ v h2, r = some (.inl (v, h2)) ∧ LDp lo h2 ∧ K v h2 L) ∨ (∃ h2, r = some (.inr ("java/lang/IndexOutOfBoundsException", h2)) ∧ LDp lo h2 ∧ ∀ z, t_sz h2 ≤ z → K (-300 : Int32) (s_Z h2 z) L) ∨
    (∃ h2, r = some (.inr ("java/lang/IllegalArgumentException", h2)) ∧ LDp lo h2 ∧ ∀ z, t_sz h2 ≤ z → K (-200 : Int32) (s_Z h2 z) L) ∨ (∃ h2, r = some (.inr ("java/lang/IllegalStateException", h2)) ∧ LDp lo h2 ∧ ∀ z, t_sz h2 ≤ z → K (-100 : Int32) (s_Z h2 z) L))
section DOES
variable {lo t Ls : Nat} {xs : Nat → Int32} {K : Int32 → TH → MS → Prop} {h : TH} {L : MS} {a b d e f : Int32}
theorem does_0 (k : DX lo t h L K (fX8_player h t a)) : gL_does lo t Ls xs K h L 0 a b d e f := by unfold gL_does; rw [if_pos rfl]; exact k
theorem does_1 (k : DX lo t h L K (fX8_game h t a b d e f)) : gL_does lo t Ls xs K h L 1 a b d e f := by unfold gL_does; rw [if_neg (by decide), if_pos rfl]; exact k
theorem does_2 (k : DX lo t h L K (fX8_play h t a b d)) : gL_does lo t Ls xs K h L 2 a b d e f := by unfold gL_does; rw [if_neg (by decide), if_neg (by decide), if_pos rfl]; exact k
theorem does_3 (k : DX lo t h L K (fX8_pass h t a b)) : gL_does lo t Ls xs K h L 3 a b d e f := by unfold gL_does; rw [if_neg (by decide), if_neg (by decide), if_neg (by decide), if_pos rfl]; exact k
theorem does_4 (k : DX lo t h L K (fX8_resign h t a)) : gL_does lo t Ls xs K h L 4 a b d e f := by unfold gL_does; rw [if_neg (by decide), if_neg (by decide), if_neg (by decide), if_neg (by decide), if_pos rfl]; exact k
theorem does_5 (k : DX lo t h L K (fX8_judge h t a)) : gL_does lo t Ls xs K h L 5 a b d e f := by unfold gL_does; rw [if_neg (by decide), if_neg (by decide), if_neg (by decide), if_neg (by decide), if_neg (by decide), if_pos rfl]; exact k
theorem does_6 (k : DX lo t h L K (fX8_lesson h t a b)) : gL_does lo t Ls xs K h L 6 a b d e f := by unfold gL_does; rw [if_neg (by decide), if_neg (by decide), if_neg (by decide), if_neg (by decide), if_neg (by decide), if_neg (by decide), if_pos rfl]; exact k
theorem does_7 (k : DX lo t h L K (fX8_branch h t a b)) : gL_does lo t Ls xs K h L 7 a b d e f := by unfold gL_does; rw [if_neg (by decide), if_neg (by decide), if_neg (by decide), if_neg (by decide), if_neg (by decide), if_neg (by decide), if_neg (by decide), if_pos rfl]; exact k
theorem does_8 (k : DX lo t h L K (fX8_mark h t a b d)) : gL_does lo t Ls xs K h L 8 a b d e f := by unfold gL_does; rw [if_neg (by decide), if_neg (by decide), if_neg (by decide), if_neg (by decide), if_neg (by decide), if_neg (by decide), if_neg (by decide), if_neg (by decide), if_pos rfl]; exact k
theorem does_9 (k : DX lo t h L K (fX8_merge h t a b)) : gL_does lo t Ls xs K h L 9 a b d e f := by unfold gL_does; rw [if_neg (by decide), if_neg (by decide), if_neg (by decide), if_neg (by decide), if_neg (by decide), if_neg (by decide), if_neg (by decide), if_neg (by decide), if_neg (by decide), if_pos rfl]; exact k
end DOES
theorem RR.ld {mo t K : Nat} {h : TH} {S : MS} (H : RR mo t K h S) : LDp mo h := by
  obtain ⟨c, s, n, G, N, P, gm, nd, gl, nl, ol, kp, hP, R⟩ := H
  exact R.ld
theorem RR.k7 {mo t K : Nat} {h : TH} {S : MS} (H : RR mo t K h S) : t_kd h t = 7 := by
  obtain ⟨c, s, n, G, N, P, gm, nd, gl, nl, ol, kp, hP, R⟩ := H
  exact R.1.1
theorem RR.Z {mo t K z : Nat} {h : TH} {S : MS} (H : RR mo t K h S) (hz : t_sz h ≤ z) : RR mo t K (s_Z h z) S := by
  obtain ⟨c, s, n, G, N, P, gm, nd, gl, nl, ol, kp, hP, R⟩ := H
  exact ⟨c, s, n, G, N, P, gm, nd, gl, nl, ol, kp, hP, R.Z hz⟩
/-- the code of an exception, by its place in a call's list -/
def cod (E : String) : Int32 := if E = eI then -300 else if E = eA then -200 else -100
theorem DX.ok {lo t J : Nat} {h : TH} {L : MS} {K : Int32 → TH → MS → Prop} {cs : List String} {r8 : Option ((Int32 × TH) ⊕ (String × TH))} {r9 : Option (Int32 × MS)} (hk : t_kd h t = 7) (A : Agr lo t J cs r8 r9) {v : Int32} {S2 : MS} (e9 : r9 = some (v, S2)) (h47 : m_i S2 47 = 0) (k : ∀ h2, RR lo t (J + 1) h2 S2 → K v h2 L) : DX lo t h L K r8 := by
  obtain ⟨h2, S2', R, ⟨v', e8, e9', -⟩ | ⟨j, E, b, hE, hj, e8, e9', q47⟩⟩ := A
  · rw [e9] at e9'
    cases e9'
    exact ⟨hk, Or.inl ⟨v, h2, e8, R.ld, k h2 R⟩⟩
  · rw [e9] at e9'
    cases e9'
    rw [h47] at q47
    exact absurd q47.symm (nI_ne0 (by omega) (by omega))
theorem DX.ex {lo t J : Nat} {h : TH} {L : MS} {K : Int32 → TH → MS → Prop} {cs : List String} {r8 : Option ((Int32 × TH) ⊕ (String × TH))} {r9 : Option (Int32 × MS)} (hk : t_kd h t = 7) (A : Agr lo t J cs r8 r9) (hcs : ∀ E ∈ cs, E = eI ∨ E = eA ∨ E = eS) {b : Int32} {S2 : MS} (e9 : r9 = some (b, S2)) {j : Nat} {E : String} (hj : j < 3) (h47 : m_i S2 47 = nI (j + 1)) (hE : cs[j]? = some E) (k : ∀ h2, RR lo t (J + 1) h2 S2 → K (cod E) h2 L) : DX lo t h L K r8 := by
  obtain ⟨h2, S2', R, ⟨v', e8, e9', q47⟩ | ⟨j', E', b', hE', hj', e8, e9', q47⟩⟩ := A
  · rw [e9] at e9'
    cases e9'
    rw [h47] at q47
    exact absurd q47 (nI_ne0 (by omega) (by omega))
  · rw [e9] at e9'
    cases e9'
    have ej : j = j' := by
      have := (nI_eq (by omega) (by omega)).mp (h47.symm.trans q47)
      omega
    subst ej
    rw [hE] at hE'
    cases hE'
    have kz : ∀ z, t_sz h2 ≤ z → K (cod E) (s_Z h2 z) L := fun z hz => k _ (R.Z hz)
    rcases hcs E (List.mem_of_getElem? hE) with rfl | rfl | rfl
    · exact ⟨hk, Or.inr (Or.inl ⟨h2, e8, R.ld, kz⟩)⟩
    · exact ⟨hk, Or.inr (Or.inr (Or.inl ⟨h2, e8, R.ld, kz⟩))⟩
    · exact ⟨hk, Or.inr (Or.inr (Or.inr ⟨h2, e8, R.ld, kz⟩))⟩
/-! the tie -/
theorem Sq.ranks {n : Nat} {S S2 : MS} (e : Sq n S S2) {a : Nat} (ha : a < 8) : m_I S2 1 a = m_I S 1 a ∧ m_I S2 2 a = m_I S 2 a := e.2.2.1 a ha
theorem hv_eq {S S2 : MS} {g : Nat} (h5 : m_I S2 5 g = m_I S 5 g) (h6 : m_I S2 6 g = m_I S 6 g) (h7 : m_I S2 7 g = m_I S 7 g) : hv S2 g = hv S g := by unfold hv; rw [h5, h6, h7]
/-- a game's rows on both sides stay -/
theorem LGm.eq {S S2 L L2 : MS} {g : Nat} (H : LGm S L g) (e : ∀ a, 3 ≤ a → a ≤ 10 → m_I S2 a g = m_I S a g) (e12 : m_I S2 12 g = m_I S 12 g) (e13 : m_I S2 13 g = m_I S 13 g) (e14 : ∀ k, k < 2 → m_I S2 14 (2 * g + k) = m_I S 14 (2 * g + k) ∧ m_I S2 15 (2 * g + k) = m_I S 15 (2 * g + k)) (e16 : m_I S2 16 g = m_I S 16 g)
    (l4 : ∀ k, k < 4 → m_I L2 4 (16 * k + g) = m_I L 4 (16 * k + g)) (l5 : ∀ k, k < 4 → m_I L2 5 (16 * k + g) = m_I L 5 (16 * k + g)) (l6 : ∀ k, k < 2 → m_I L2 6 (16 * k + g) = m_I L 6 (16 * k + g)) : LGm S2 L2 g := by
  have a0 := l4 0 (by omega); have a1 := l4 1 (by omega); have a2 := l4 2 (by omega); have a3 := l4 3 (by omega)
  have b0 := l5 0 (by omega); have b1 := l5 1 (by omega); have b2 := l5 2 (by omega); have b3 := l5 3 (by omega)
  have c0 := l6 0 (by omega); have c1 := l6 1 (by omega)
  have d0 := e14 0 (by omega); have d1 := e14 1 (by omega)
  rw [show 16 * 0 + g = g by omega] at a0 b0 c0
  rw [show 16 * 1 + g = 16 + g by omega] at a1 b1 c1
  rw [show 16 * 2 + g = 32 + g by omega] at a2 b2
  rw [show 16 * 3 + g = 48 + g by omega] at a3 b3
  rw [Nat.add_zero] at d0
  obtain ⟨h1, h2, h3, h4, h5, h6, h7, h8, h9, h10⟩ := H
  unfold LGm
  rw [a0, a1, a2, a3, b0, b1, b2, b3, c0, c1, e 3 (by omega) (by omega), e 4 (by omega) (by omega), e 8 (by omega) (by omega), e 9 (by omega) (by omega), e 10 (by omega) (by omega), d0.1, d0.2, d1.1, d1.2, e12, e13, e16, hv_eq (e 5 (by omega) (by omega)) (e 6 (by omega) (by omega)) (e 7 (by omega) (by omega))]
  exact ⟨h1, h2, h3, h4, h5, h6, h7, h8, h9, h10⟩
/-- a game's positions stay -/
theorem LBo.eq {S S2 L L2 : MS} {P P2 Q Q2 g : Nat} (H : LBo S L P Q g) (hP : P ≤ P2) (hQ : Q ≤ Q2) (e11 : m_I S2 11 g = m_I S 11 g) (e18 : ∀ A, A < P → m_J S2 18 A = m_J S 18 A ∧ m_J S2 19 A = m_J S 19 A ∧ m_I S2 20 A = m_I S 20 A)
    (l2 : ∀ j, j < Q → m_I L2 2 j = m_I L 2 j) (l0 : ∀ j, j < Q → m_J L2 0 j = m_J L 0 j ∧ m_J L2 1 j = m_J L 1 j) (hn : ∀ j, Q ≤ j → j < Q2 → m_I L2 2 j ≠ nI g) : LBo S2 L2 P2 Q2 g := by
  obtain ⟨l, A, h1, h2, ⟨j0, hj0, q0⟩, h4, h5⟩ := H
  have hl := lat_ok (g := g) Q ⟨j0, hj0, q0⟩
  have el : ∀ d, Q + d ≤ Q2 → lat L2 g (Q + d) = lat L g Q := by
    intro d
    induction d with
    | zero => intro _; exact lat_eq Q l2
    | succ d ih =>
      intro hd
      rw [← Nat.add_assoc, show lat L2 g (Q + d + 1) = if m_I L2 2 (Q + d) = nI g then Q + d else lat L2 g (Q + d) from rfl]
      rw [if_neg (hn _ (by omega) (by omega))]
      exact ih (by omega)
  have el2 : lat L2 g Q2 = lat L g Q := by
    have := el (Q2 - Q) (by omega)
    rw [show Q + (Q2 - Q) = Q2 by omega] at this
    exact this
  refine ⟨l, A, e11.trans h1, WM.mono hP _ _ (WM.cg e18 _ _ h2), ⟨j0, by omega, (l2 j0 hj0).trans q0⟩, fun x => ?_, ?_⟩
  · rw [h4]
    constructor
    · rintro ⟨j, hj, a1, a2⟩
      exact ⟨j, by omega, (l2 j hj).trans a1, by rw [(l0 j hj).1, (l0 j hj).2]; exact a2⟩
    · rintro ⟨j, hj, a1, a2⟩
      have hjQ : j < Q := by
        rcases Nat.lt_or_ge j Q with q | q
        · exact q
        · exact absurd a1 (hn j q hj)
      exact ⟨j, hjQ, (l2 j hjQ).symm.trans a1, by rw [← (l0 j hjQ).1, ← (l0 j hjQ).2]; exact a2⟩
  · rw [el2, (l0 _ hl.1).1, (l0 _ hl.1).2]; exact h5
theorem LBo.J {S L : MS} {P Q g : Nat} (H : LBo S L P Q g) : True := trivial
theorem LT.sq {S S2 L : MS} {J J2 n G E Q N P : Nat} (T : LT S L J n G E Q N P) (hJ : J ≤ J2) (e : ∀ n, Sq n S S2) : LT S2 L J2 n G E Q N P := by
  have e0 := e 0
  have I := fun a h => e0.I' a h
  have i := fun a h => e0.i' a h
  have Jw := fun a h => e0.J' a h
  obtain ⟨⟨a1, a2, a3, a4, a5⟩, ⟨b1, b2, b3, b4, b5, b6⟩, c1, c2, c3, c4, c5, c6⟩ := T
  refine ⟨⟨by rw [i 0 (by omega)]; exact a1, by rw [i 4 (by omega)]; exact a2, by rw [i 19 (by omega)]; exact a3, by rw [i 36 (by omega)]; exact a4, by rw [i 21 (by omega)]; exact a5⟩, ⟨b1, b2, b3, b4, by omega, b6⟩, c1, fun a ha => ?_, fun g hg => ?_, c4, fun j hj => by rw [I 17 (by omega)]; exact c5 j hj, fun k hk => ?_⟩
  · have h8 : a < 8 := by omega
    rw [I 0 (by omega), (e0.ranks h8).1, (e0.ranks h8).2]; exact c2 a ha
  · obtain ⟨q1, q2⟩ := c3 g hg
    refine ⟨q1.eq (fun a h1 h2 => by rw [I a (by omega)]) (by rw [I 12 (by omega)]) (by rw [I 13 (by omega)]) (fun k _ => by rw [I 14 (by omega), I 15 (by omega)]; exact ⟨rfl, rfl⟩) (by rw [I 16 (by omega)]) (fun _ _ => rfl) (fun _ _ => rfl) (fun _ _ => rfl), ?_⟩
    exact q2.eq (Nat.le_refl _) (Nat.le_refl _) (by rw [I 11 (by omega)]) (fun A _ => by rw [Jw 18 (by omega), Jw 19 (by omega), I 20 (by omega)]; exact ⟨rfl, rfl, rfl⟩) (fun _ _ => rfl) (fun _ _ => ⟨rfl, rfl⟩) (fun j h1 h2 => by omega)
  · obtain ⟨q1, q2, q3⟩ := c6 k hk
    unfold LNd
    rw [I 28 (by omega), I 30 (by omega), I 36 (by omega)]
    exact ⟨q1, q2, q3⟩
section NUM
variable {lo : Nat} {h : TH} {S L : MS} {t c s n G N P Q J : Nat} {gm nd : Nat → Nat} {gl nl : Nat → List BW} {ol : List Nat} {kp : Nat → Bool}
theorem LT.num {n' G' E' N' P' : Nat} (H : Rel 16 lo h S t c s n G N P gm nd gl nl ol kp) (hP : P ≤ 4000) (T : LT S L J n' G' E' Q N' P') : n' = n ∧ G' = G ∧ E' = ol.length ∧ N' = N ∧ P' = P := by
  obtain ⟨⟨a1, a2, a3, a4, a5⟩, ⟨b1, b2, b3, b4, b5, b6⟩, -⟩ := T
  have h8 := H.2.1.1
  have h16 := H.G16
  have h60 := H.N60
  have hE := H.2.2.2.1.2.1
  have q1 := H.2.1.2.2.1
  have q2 := H.2.2.1.2.2.1
  have q3 := H.2.2.2.1.2.2.1
  have q4 := H.2.2.2.2.1.2.2.1
  have q5 := H.2.2.2.2.2.1.1
  exact ⟨(nI_eq (by omega) (by omega)).mp (a1.symm.trans q1), (nI_eq (by omega) (by omega)).mp (a2.symm.trans q2), (nI_eq (by omega) (by omega)).mp (a3.symm.trans q3), (nI_eq (by omega) (by omega)).mp (a4.symm.trans q4), (nI_eq (by omega) (by omega)).mp (a5.symm.trans q5)⟩
end NUM
/-- both sides and the law, behind at most J calls -/
def Tie (lo t J : Nat) (h : TH) (S L : MS) : Prop := ∃ c s n G N P gm nd gl nl ol kp Q, P ≤ J ∧ Rel 16 lo h S t c s n G N P gm nd gl nl ol kp ∧ LT S L J n G ol.length Q N P
theorem Tie.mk' {lo t J : Nat} {h : TH} {S L : MS} (hJ : J ≤ 4000) (R : RR lo t J h S) {n G E Q N P : Nat} (T : LT S L J n G E Q N P) : Tie lo t J h S L := by
  obtain ⟨c, s, n', G', N', P', gm, nd, gl, nl, ol, kp, hP, H⟩ := R
  obtain ⟨rfl, rfl, rfl, rfl, rfl⟩ := LT.num H (by omega) T
  exact ⟨c, s, _, _, _, _, gm, nd, gl, nl, ol, kp, Q, hP, H, T⟩
theorem Tie.Z {lo t J z : Nat} {h : TH} {S L : MS} (H : Tie lo t J h S L) (hz : t_sz h ≤ z) : Tie lo t J (s_Z h z) S L := by
  obtain ⟨c, s, n, G, N, P, gm, nd, gl, nl, ol, kp, Q, hP, R, T⟩ := H
  exact ⟨c, s, n, G, N, P, gm, nd, gl, nl, ol, kp, Q, hP, R.Z hz, T⟩
/-! player -/
theorem fails_0' (S : MS) : fX9_fails S 0 = some (false, ms_i S 47 0) := fails_0 S
theorem player_9 {S : MS} {n r : Nat} (hn : n < 8) (h0 : m_i S 0 = nI n) : fX9_player_29 S (nI r) 0 = some (nI n, ms_i (ms_I (ms_I (ms_i S 47 0) 0 n (nI r)) 1 n (nI r)) 0 (nI (n + 1))) := by
  unfold fX9_player_29
  rw [fails_0, Option.bind_some]
  dsimp only
  have q0 : m_i (ms_i S 47 0) 0 = nI n := by rw [mi_i, if_neg (by omega)]; exact h0
  have q1 : m_i (ms_I (ms_i S 47 0) 0 n (nI r)) 0 = nI n := q0
  have q2 : m_i (ms_I (ms_I (ms_i S 47 0) 0 n (nI r)) 1 n (nI r)) 0 = nI n := q0
  have q3 : m_i (ms_i (ms_I (ms_I (ms_i S 47 0) 0 n (nI r)) 1 n (nI r)) 0 (nI (n + 1))) 0 = nI (n + 1) := by rw [mi_i, if_pos rfl]
  rw [if_pos rfl, q0, if_pos (xin_nI hn (by omega)), clp (show n < 2 ^ 31 by omega), q1, if_pos (xin_nI hn (by omega)), clp (show n < 2 ^ 31 by omega), Option.bind_some, q2, nI_1, q3, nI_pred]
section STEPS
variable {lo : Nat} {h : TH} {S L : MS} {t c s n G N P Q J : Nat} {gm nd : Nat → Nat} {gl nl : Nat → List BW} {ol : List Nat} {kp : Nat → Bool}
variable {Ls : Nat} {xs : Nat → Int32} {K : Int32 → TH → MS → Prop}
theorem csAS : ∀ E ∈ [eA, eS], E = eI ∨ E = eA ∨ E = eS := fun E h => by
  simp only [List.mem_cons, List.not_mem_nil, or_false] at h
  rcases h with rfl | rfl
  · exact Or.inr (Or.inl rfl)
  · exact Or.inr (Or.inr rfl)
theorem csIAS : ∀ E ∈ [eI, eA, eS], E = eI ∨ E = eA ∨ E = eS := fun E h => by simpa [List.mem_cons] using h
theorem csIS : ∀ E ∈ [eI, eS], E = eI ∨ E = eA ∨ E = eS := fun E h => by
  simp only [List.mem_cons, List.not_mem_nil, or_false] at h
  rcases h with rfl | rfl
  · exact Or.inl rfl
  · exact Or.inr (Or.inr rfl)
theorem csIA : ∀ E ∈ [eI, eA], E = eI ∨ E = eA ∨ E = eS := fun E h => by
  simp only [List.mem_cons, List.not_mem_nil, or_false] at h
  rcases h with rfl | rfl
  · exact Or.inl rfl
  · exact Or.inr (Or.inl rfl)
theorem cod_I : cod eI = -300 := by unfold cod; rw [if_pos rfl]
theorem cod_A : cod eA = -200 := by unfold cod; rw [if_neg (by decide), if_pos rfl]
theorem cod_S : cod eS = -100 := by unfold cod; rw [if_neg (by decide), if_neg (by decide)]
theorem Tie.rr (H : Rel 16 lo h S t c s n G N P gm nd gl nl ol kp) (hP : P ≤ J) : RR lo t J h S := ⟨c, s, n, G, N, P, gm, nd, gl, nl, ol, kp, hP, H⟩
theorem nI_m (a : Nat) (ha : a < 2 ^ 31) : ¬ nI a < 0 := nI_pos ha
/-- a player more, in the law's rows -/
def plW (L : MS) (n r : Nat) : MS := ms_I (ms_I (ms_I (ms_I L 3 (3 * n) (nI r)) 3 (3 * n + 1) (nI r)) 3 (3 * n + 2) 0) 7 0 (nI (n + 1))
theorem plW_I {L : MS} {n r j q : Nat} : m_I (plW L n r) j q = if j = 7 ∧ q = 0 then nI (n + 1) else if j = 3 ∧ q = 3 * n + 2 then 0 else if j = 3 ∧ q = 3 * n + 1 then nI r else if j = 3 ∧ q = 3 * n then nI r else m_I L j q := by
  unfold plW
  rw [mI_I, mI_I, mI_I, mI_I]
theorem player_ok (hJ : J ≤ 60) (hP : P ≤ J) (H : Rel 16 lo h S t c s n G N P gm nd gl nl ol kp) (T : LT S L J n G ol.length Q N P) {r : Nat} (hr : r < 22) (k : ∀ h2 S2 L2, Tie lo t (J + 1) h2 S2 L2 → K 1 h2 L2) : gL_isDone_116 lo t Ls xs K h L (nI r) := by
  have hn8 := H.2.1.1
  have hT7 := T.2.2.1
  have A := call_player (Tie.rr H hP) (nI r)
  have e94 : ∀ (L2 : MS) (due : Int32), DX lo t h L2 (fun v2 h3 L4 => (if v2 = due then K (1 : Int32) h3 L4 else K (0 : Int32) h3 L4)) (fX8_player h t (nI r)) → gL_isDone_194 lo t Ls xs K h L2 (nI r) due := fun L2 due k => by
    unfold gL_isDone_194
    exact does_0 k
  unfold gL_isDone_116
  rw [show (0 : Int32).toNatClampNeg = 0 by decide, hT7.1]
  by_cases hr20 : r ≤ 20
  · rw [if_pos (n_le 20 20 (by decide) hr20 (by omega))]
    have hin : (decide ((0 : Int32) ≤ nI r) && decide (nI r ≤ 20)) = true := by
      rw [decide_eq_true (nI_pos' (by omega)), decide_eq_true (n_le 20 20 (by decide) hr20 (by omega))]; rfl
    by_cases hn : n = 8
    · subst hn
      have e9 : fX9_player S (nI r) = some (0, ms_i S 47 2) := by
        unfold fX9_player
        rw [isIn_X9, Option.bind_some, hin, if_neg tf, H.2.1.2.2.1, if_pos (show nI 8 = 8 from rfl)]
        unfold fX9_player_29
        rw [fails_2]; rfl
      rw [if_pos (show nI 8 = 8 from rfl)]
      unfold gL_isDone_149
      rw [if_pos (by decide)]
      refine e94 _ _ (DX.ex H.1.1 A csAS e9 (j := 1) (E := eS) (by omega) i47 rfl fun h2 R => ?_)
      rw [cod_S, if_pos rfl]
      exact k h2 _ _ (Tie.mk' (by omega) R (T.sq (Nat.le_succ J) (fun n => Sq.f)))
    · have hn8' : n < 8 := by omega
      have ne8 : ¬ nI n = 8 := fun e => hn ((n_eq 8 8 (by decide) (by omega) (by omega)).mp e)
      have e9 : fX9_player S (nI r) = some (nI n, ms_i (ms_I (ms_I (ms_i S 47 0) 0 n (nI r)) 1 n (nI r)) 0 (nI (n + 1))) := by
        unfold fX9_player
        rw [isIn_X9, Option.bind_some, hin, if_neg tf, H.2.1.2.2.1, if_neg ne8]
        exact player_9 hn8' H.2.1.2.2.1
      rw [if_neg ne8]
      unfold gL_isDone_149
      rw [if_neg (nI_pos (by omega)), at3_0, nI_1, i32_2, nI_add, clp (by omega), clp (by omega), clp (by omega)]
      refine ⟨xin_nI (by omega) (by omega), xin_nI (by omega) (by omega), _, rfl, xin_nI (by omega) (by omega), _, rfl, _, rfl, ?_⟩
      have eW : ms_I (ms_I (ms_I (ms_I L 3 (3 * n) (nI r)) 3 (3 * n + 1) (nI r)) 3 (3 * n + 2) 0) 7 0 (m_I (ms_I (ms_I (ms_I L 3 (3 * n) (nI r)) 3 (3 * n + 1) (nI r)) 3 (3 * n + 2) 0) 7 0 + 1) = plW L n r := by
        rw [mI_I, if_neg (by omega), mI_I, if_neg (by omega), mI_I, if_neg (by omega), hT7.1, nI_1]; rfl
      rw [show (0 : Int32).toNatClampNeg = 0 by decide, eW]
      have e47 : m_i (ms_i (ms_I (ms_I (ms_i S 47 0) 0 n (nI r)) 1 n (nI r)) 0 (nI (n + 1))) 47 = 0 := by rw [mi_i, if_neg (by omega)]; exact i47 (S := S)
      refine e94 _ _ (DX.ok H.1.1 A e9 e47 fun h2 R => ?_)
      rw [if_pos rfl]
      refine k h2 _ _ (Tie.mk' (by omega) R (n := n + 1) (G := G) (E := ol.length) (Q := Q) (N := N) (P := P) ?_)
      -- what stays
      have eI : ∀ a, a ≠ 0 → a ≠ 1 → m_I (ms_i (ms_I (ms_I (ms_i S 47 0) 0 n (nI r)) 1 n (nI r)) 0 (nI (n + 1))) a = m_I S a := fun a b1 b2 => by
        funext j; rw [mI_i, mI_I, if_neg (fun z => b2 z.1), mI_I, if_neg (fun z => b1 z.1), mI_i]
      have e0 : ∀ j, m_I (ms_i (ms_I (ms_I (ms_i S 47 0) 0 n (nI r)) 1 n (nI r)) 0 (nI (n + 1))) 0 j = if j = n then nI r else m_I S 0 j := fun j => by
        rw [mI_i, mI_I, if_neg (by omega), mI_I, mI_i]; simp
      have e1' : ∀ j, m_I (ms_i (ms_I (ms_I (ms_i S 47 0) 0 n (nI r)) 1 n (nI r)) 0 (nI (n + 1))) 1 j = if j = n then nI r else m_I S 1 j := fun j => by
        rw [mI_i, mI_I, mI_I, mI_i]; simp
      have ei : ∀ k, k ≠ 0 → k ≠ 47 → m_i (ms_i (ms_I (ms_I (ms_i S 47 0) 0 n (nI r)) 1 n (nI r)) 0 (nI (n + 1))) k = m_i S k := fun k b1 b2 => by
        rw [mi_i, if_neg b1]; exact (mi_i ..).trans (if_neg b2)
      have ei0 : m_i (ms_i (ms_I (ms_I (ms_i S 47 0) 0 n (nI r)) 1 n (nI r)) 0 (nI (n + 1))) 0 = nI (n + 1) := by rw [mi_i, if_pos rfl]
      have eJ : m_J (ms_i (ms_I (ms_I (ms_i S 47 0) 0 n (nI r)) 1 n (nI r)) 0 (nI (n + 1))) = m_J S := rfl
      generalize ms_i (ms_I (ms_I (ms_i S 47 0) 0 n (nI r)) 1 n (nI r)) 0 (nI (n + 1)) = S2 at eI e0 e1' ei ei0 eJ ⊢
      have hz := H.rky.z n (Nat.le_refl _) hn8'
      rw [Prod.mk.injEq] at hz
      have p4 : ∀ j q, j ≠ 3 → j ≠ 7 → m_I (plW L n r) j q = m_I L j q := fun j q h1 h2 => by rw [plW_I, if_neg (by omega), if_neg (by omega), if_neg (by omega), if_neg (by omega)]
      have p7 : ∀ q, q ≠ 0 → m_I (plW L n r) 7 q = m_I L 7 q := fun q h1 => by rw [plW_I, if_neg (by omega), if_neg (by omega), if_neg (by omega), if_neg (by omega)]
      have p70 : m_I (plW L n r) 7 0 = nI (n + 1) := by rw [plW_I, if_pos ⟨rfl, rfl⟩]
      have p3 : ∀ q, q < 3 * n → m_I (plW L n r) 3 q = m_I L 3 q := fun q h1 => by rw [plW_I, if_neg (by omega), if_neg (by omega), if_neg (by omega), if_neg (by omega)]
      have p30 : m_I (plW L n r) 3 (3 * n) = nI r := by rw [plW_I, if_neg (by omega), if_neg (by omega), if_neg (by omega), if_pos ⟨rfl, rfl⟩]
      have p31 : m_I (plW L n r) 3 (3 * n + 1) = nI r := by rw [plW_I, if_neg (by omega), if_neg (by omega), if_pos ⟨rfl, rfl⟩]
      have p32 : m_I (plW L n r) 3 (3 * n + 2) = 0 := by rw [plW_I, if_neg (by omega), if_pos ⟨rfl, rfl⟩]
      have pJ : m_J (plW L n r) = m_J L := rfl
      generalize plW L n r = L2 at p4 p7 p70 p3 p30 p31 p32 pJ ⊢
      obtain ⟨⟨a1, a2, a3, a4, a5⟩, ⟨b1, b2, b3, b4, b5, b6⟩, ⟨c1, c2, c3, c4, c5⟩, d2, d3, d4, d5, d6⟩ := T
      refine ⟨⟨ei0, by rw [ei 4 (by omega) (by omega)]; exact a2, by rw [ei 19 (by omega) (by omega)]; exact a3, by rw [ei 36 (by omega) (by omega)]; exact a4, by rw [ei 21 (by omega) (by omega)]; exact a5⟩, ⟨by omega, b2, b3, b4, by omega, b6⟩, ⟨p70, by rw [p7 1 (by omega)]; exact c2, by rw [p7 2 (by omega)]; exact c3, by rw [p7 3 (by omega)]; exact c4, by rw [p7 4 (by omega)]; exact c5⟩, fun a ha => ?_, fun g hg => ⟨?_, ?_⟩, fun g h1 h2 => ⟨by rw [p4 6 _ (by omega) (by omega)]; exact (d4 g h1 h2).1, by rw [p4 6 _ (by omega) (by omega)]; exact (d4 g h1 h2).2.1, fun j hj => by rw [p4 2 _ (by omega) (by omega)]; exact (d4 g h1 h2).2.2 j hj⟩, fun j hj => by rw [p4 6 _ (by omega) (by omega), eI 17 (by omega) (by omega)]; exact d5 j hj, fun i hi => ?_⟩
      · by_cases q : a = n
        · subst q
          rw [p30, p31, p32, e0, e1', if_pos rfl, if_pos rfl, eI 2 (by omega) (by omega), hz.2]
          exact ⟨rfl, rfl, rfl⟩
        · rw [p3 _ (by omega), p3 _ (by omega), p3 _ (by omega), e0, e1', if_neg q, if_neg q, eI 2 (by omega) (by omega)]
          exact d2 a (by omega)
      · exact (d3 g hg).1.eq (fun a h1 h2 => by rw [eI a (by omega) (by omega)]) (by rw [eI 12 (by omega) (by omega)]) (by rw [eI 13 (by omega) (by omega)]) (fun k _ => by rw [eI 14 (by omega) (by omega), eI 15 (by omega) (by omega)]; exact ⟨rfl, rfl⟩) (by rw [eI 16 (by omega) (by omega)]) (fun _ _ => p4 4 _ (by omega) (by omega)) (fun _ _ => p4 5 _ (by omega) (by omega)) (fun _ _ => p4 6 _ (by omega) (by omega))
      · exact (d3 g hg).2.eq (Nat.le_refl _) (Nat.le_refl _) (by rw [eI 11 (by omega) (by omega)]) (fun A _ => by rw [eJ, eI 20 (by omega) (by omega)]; exact ⟨rfl, rfl, rfl⟩) (fun j _ => p4 2 _ (by omega) (by omega)) (fun j _ => by rw [pJ]; exact ⟨rfl, rfl⟩) (fun j h1 h2 => by omega)
      · obtain ⟨q1, q2, q3⟩ := d6 i hi
        unfold LNd
        rw [p4 8 _ (by omega) (by omega), p4 9 _ (by omega) (by omega), eI 28 (by omega) (by omega), eI 30 (by omega) (by omega), eI 36 (by omega) (by omega)]
        exact ⟨q1, q2, q3⟩
  · obtain rfl : r = 21 := by omega
    rw [if_neg (n_ge 20 20 (by decide) (by omega) (by omega))]
    have e9 : fX9_player S (nI 21) = some (0, ms_i S 47 1) := by
      unfold fX9_player
      rw [isIn_X9, Option.bind_some, if_pos (show (decide ((0 : Int32) ≤ nI 21) && decide (nI 21 ≤ 20)) = false by decide)]
      unfold fX9_player_29
      rw [fails_1]; rfl
    unfold gL_isDone_149
    rw [if_pos (by decide)]
    refine e94 _ _ (DX.ex H.1.1 A csAS e9 (j := 0) (E := eA) (by omega) i47 rfl fun h2 R => ?_)
    rw [cod_A, if_pos rfl]
    exact k h2 _ _ (Tie.mk' (by omega) R (T.sq (Nat.le_succ J) (fun n => Sq.f)))
end STEPS
