/-! PURE 24: a move is made; play and pass. -/
section MOVE
variable {u mo : Nat} {h : TH} {S : MS} {t c s n G N P : Nat} {gm nd : Nat → Nat} {gl nl : Nat → List BW} {ol : List Nat} {kp : Nat → Bool}
/-- the reference behind a move of game g to board x with so many passings -/
def mvS (S : MS) (P g L m : Nat) (x : BW) (ps : Int32) : MS := ms_I (ms_I (ms_I (ms_i (ms_I (ms_J (ms_J S 18 P x.1) 19 P x.2) 20 P (nI L)) 21 (nI (P + 1))) 11 g (nI P)) 12 g (nI m)) 13 g ps
theorem mvS_I {S : MS} {P g L m : Nat} {x : BW} {ps : Int32} (a j : Nat) : m_I (mvS S P g L m x ps) a j = if a = 13 ∧ j = g then ps else if a = 12 ∧ j = g then nI m else if a = 11 ∧ j = g then nI P else if a = 20 ∧ j = P then nI L else m_I S a j := rfl
theorem mvS_i {S : MS} {P g L m : Nat} {x : BW} {ps : Int32} (k : Nat) : m_i (mvS S P g L m x ps) k = if k = 21 then nI (P + 1) else m_i S k := rfl
theorem mvS_J {S : MS} {P g L m : Nat} {x : BW} {ps : Int32} (a j : Nat) : m_J (mvS S P g L m x ps) a j = if a = 19 ∧ j = P then x.2 else if a = 18 ∧ j = P then x.1 else m_J S a j := rfl
theorem Rel.move (H : Rel u mo h S t c s n G N P gm nd gl nl ol kp) {g z L ps : Nat} {x : BW} {h2 : TH} (hg : g < G) (hz : WH h (bg S g) z (x :: gl g)) (hx : OKB x) (hps : t_I h z 4 = nI ps) (hps3 : ps < 3) (h11 : m_I S 11 g = nI L) (hWM : WM S P L (gl g)) (A1 : KU (gm g + 1) (s_R h (gm g) 6 (some z)) h2) (hkept : ∀ k, k < 49 → t_I h2 (gm g + 1) k = nI (lbc x k)) (hu : u = 16 ∨ u = g) :
    Rel g mo h2 (mvS S P g L (gl g).length x (nI ps)) t c s n G N (P + 1) gm nd (fun i => if i = g then x :: gl g else gl i) nl ol kp := by
  have hG16 := H.G16
  have hk := (H.gM hg).k3
  have k9g := (H.pm hg).2.2.2.2.2.2.2.1
  have eI : ∀ a, a ≠ 11 → a ≠ 12 → a ≠ 13 → a ≠ 20 → m_I (mvS S P g L (gl g).length x (nI ps)) a = m_I S a := fun a h1 h2 h3 h4 => by
    funext j; rw [mvS_I, if_neg (fun z => h3 z.1), if_neg (fun z => h2 z.1), if_neg (fun z => h1 z.1), if_neg (fun z => h4 z.1)]
  have eg : ∀ a j, j ≠ g → a ≠ 20 → m_I (mvS S P g L (gl g).length x (nI ps)) a j = m_I S a j := fun a j hj h4 => by
    rw [mvS_I, if_neg (fun z => hj z.2), if_neg (fun z => hj z.2), if_neg (fun z => hj z.2), if_neg (fun z => h4 z.1)]
  have ei : ∀ k, k ≠ 21 → m_i (mvS S P g L (gl g).length x (nI ps)) k = m_i S k := fun k hk2 => by rw [mvS_i, if_neg hk2]
  have eJ : ∀ a, a ≠ 18 → a ≠ 19 → m_J (mvS S P g L (gl g).length x (nI ps)) a = m_J S a := fun a h1 h2 => by
    funext j; rw [mvS_J, if_neg (fun z => h2 z.1), if_neg (fun z => h1 z.1)]
  have w3 : ∀ M, M < P → m_J (mvS S P g L (gl g).length x (nI ps)) 18 M = m_J S 18 M ∧ m_J (mvS S P g L (gl g).length x (nI ps)) 19 M = m_J S 19 M ∧ m_I (mvS S P g L (gl g).length x (nI ps)) 20 M = m_I S 20 M := fun M hM => by
    refine ⟨by rw [mvS_J, if_neg (by omega), if_neg (by omega)], by rw [mvS_J, if_neg (by omega), if_neg (by omega)], by rw [mvS_I, if_neg (by omega), if_neg (by omega), if_neg (by omega), if_neg (by omega)]⟩
  have ebg : ∀ i, bg (mvS S P g L (gl g).length x (nI ps)) i = bg S i := fun i => by unfold bg; rw [eI 7 (by omega) (by omega) (by omega) (by omega)]
  have n11 : m_I (mvS S P g L (gl g).length x (nI ps)) 11 g = nI P := by rw [mvS_I, if_neg (by omega), if_neg (by omega), if_pos ⟨rfl, rfl⟩]
  have n12 : m_I (mvS S P g L (gl g).length x (nI ps)) 12 g = nI (gl g).length := by rw [mvS_I, if_neg (by omega), if_pos ⟨rfl, rfl⟩]
  have n13 : m_I (mvS S P g L (gl g).length x (nI ps)) 13 g = nI ps := by rw [mvS_I, if_pos ⟨rfl, rfl⟩]
  have n20 : m_I (mvS S P g L (gl g).length x (nI ps)) 20 P = nI L := by rw [mvS_I, if_neg (by omega), if_neg (by omega), if_neg (by omega), if_pos ⟨rfl, rfl⟩]
  have n18 : m_J (mvS S P g L (gl g).length x (nI ps)) 18 P = x.1 := by rw [mvS_J, if_neg (by omega), if_pos ⟨rfl, rfl⟩]
  have n19 : m_J (mvS S P g L (gl g).length x (nI ps)) 19 P = x.2 := by rw [mvS_J, if_pos ⟨rfl, rfl⟩]
  generalize hS2 : mvS S P g L (gl g).length x (nI ps) = S2 at *
  have A : Bx h h2 := by
    refine (Bx.rf.R (a := gm g) (k := 6) (v := some z) (Or.inr (Or.inr (Or.inr ⟨hk, rfl⟩)))).tr ?_
    refine ⟨by rw [A1.1]; exact Nat.le_refl _, fun b hb => ?_⟩
    rw [A1.2.1, A1.2.2.1, A1.2.2.2.1, A1.2.2.2.2.1]
    by_cases e : b = gm g + 1
    · subst e
      have k9' : t_kd (s_R h (gm g) 6 (some z)) (gm g + 1) = 9 := k9g
      exact ⟨rfl, rfl, fun q => by omega, fun _ => rfl, fun q => by omega, fun q => by omega, fun q => by omega⟩
    · rw [A1.2.2.2.2.2.1 b e]
      exact ⟨rfl, rfl, fun _ => ⟨rfl, rfl, rfl⟩, fun _ => rfl, fun _ => ⟨fun _ _ => rfl, rfl, rfl, rfl⟩, fun _ => ⟨rfl, fun _ _ => rfl⟩, fun _ => rfl⟩
  have neI : ∀ a j, a ≠ gm g + 1 → t_I h2 a j = t_I h a j := fun a j ha => by rw [A1.2.2.2.2.2.1 a ha]; rfl
  have neR : ∀ a j, ¬ (a = gm g ∧ j = 6) → t_R h2 a j = t_R h a j := fun a j ha => by rw [A1.2.2.2.2.1, R_sR, if_neg ha]
  have p6 : t_R h2 (gm g) 6 = some z := by rw [A1.2.2.2.2.1, R_sR, if_pos ⟨rfl, rfl⟩]
  have hld : LDp mo h2 := by
    have := H.2.2.2.2.2.2
    unfold LDp at *
    rw [A1.1, A1.2.1]; exact this
  have Gq1 : ∀ l, Gq S S2 l := fun l y _ => by rw [eI 9 (by omega) (by omega) (by omega) (by omega), eI 5 (by omega) (by omega) (by omega) (by omega), eI 6 (by omega) (by omega) (by omega) (by omega), eI 8 (by omega) (by omega) (by omega) (by omega)]; exact ⟨rfl, rfl, rfl, rfl⟩
  have hlen := H.2.2.2.2.2.1
  obtain ⟨h0, h1, h2', h3, h4, h5, h6⟩ := H
  have hkc : t_kd h c = 2 := h0.2.2.2.1.1
  have kd9 : ∀ a, t_kd h a ≠ 9 → a ≠ gm g + 1 := fun a ha => kd_ne (h := h) (by omega)
  refine ⟨h0.bx A, ?_, ?_, ?_, ?_, ?_, hld⟩
  · have := h1.bx (h2 := h2) (neI c 1 (kd9 _ (by omega))) (fun a _ => neI (c + 1) a (fun e => absurd (show c = gm g by omega) (fun e2 => by rw [e2] at hkc; omega)))
    unfold R1 at *
    rw [ei 0 (by omega), eI 0 (by omega) (by omega) (by omega) (by omega)]
    exact this
  · obtain ⟨a1, a2, a3, a4, a5, a6⟩ := h2'
    have hk12 : t_kd h (c + 2) = 12 := h0.2.2.2.1.2.2.1.2.1
    refine ⟨a1, by rw [neI c 3 (kd9 _ (by omega))]; exact a2, by rw [ei 4 (by omega)]; exact a3, fun i hi => by rw [neR (c + 2) i (fun e => by rw [e.1] at hk12; omega)]; exact a4 i hi, a5, fun i hi => ?_⟩
    obtain ⟨b1, b2⟩ := a6 i hi
    have k3 := b1.k3
    have hci : ∀ k j, k < 2 → j < 2 → t_I h2 (gm i - 2 + k) j = t_I h (gm i - 2 + k) j := fun k j hk2 _ => neI _ _ (kd9 _ (by have := (b1.2.2.2.2.2.2.2.2.2.2.2 k hk2).1; omega))
    have hGM : GM h2 (S2) n (gm i) i := (b1.bx A (neI _ _ (kd9 _ (by omega))) (neI _ _ (kd9 _ (by omega))) hci).cg (fun a h1 h2 => by rw [eI a (by omega) (by omega) (by omega) (by omega)]) (fun k _ => by rw [eI 14 (by omega) (by omega) (by omega) (by omega), eI 15 (by omega) (by omega) (by omega) (by omega)]; exact ⟨rfl, rfl⟩) (by rw [eI 16 (by omega) (by omega) (by omega) (by omega)])
    refine ⟨hGM, ?_⟩
    by_cases hig : i = g
    · subst hig
      have eb := ((A.2 (gm i) (by omega)).2.2.2.2.1 k3)
      obtain ⟨m1, -, -, -, -, -, m9, m10, m11, -⟩ := b2
      have hzk := hz.1
      have ezI := ((A.2 z (by omega)).2.2.1 hzk).1
      simp only [if_true]
      refine ⟨fun y hy => ?_, ⟨z, p6, by rw [ebg]; exact WH.bx A _ z hz, by rw [ezI, n13]; exact hps⟩, ⟨P, n11, ?_⟩, by rw [n12]; rfl, by rw [n13]; exact ⟨ps, hps3, rfl⟩, fun _ hne => absurd rfl hne, by rw [eb.2.2.2]; exact m9, A.kd m10, A.ln m10 m11, fun y hy k hk2 => ?_⟩
      · rcases List.mem_cons.mp hy with rfl | hy
        · exact hx
        · exact m1 y hy
      · refine ⟨Nat.lt_succ_self _, n18, n19, fun e => ?_, fun _ => ⟨L, n20, WM.mono (Nat.le_succ _) _ _ (WM.cg w3 _ _ hWM)⟩⟩
        rw [e] at hWM; exact hWM.elim
      · simp at hy
        subst hy
        exact hkept k hk2
    · have hne : gm i ≠ gm g := fun z => hig (a5 i g hi hg z)
      simp only [if_neg hig]
      have hp : PM u h2 S P (gm i) i (gl i) := b2.bx A k3 (neR _ _ (fun e => hne e.1)) (fun k _ => neI _ _ (by omega))
      have hp2 : PM u h2 S2 (P + 1) (gm i) i (gl i) := hp.cg (Nat.le_succ _) (fun a ha => eg a i hig (by omega)) w3
      obtain ⟨m1, m2, m3, m4, m5, m6, m7⟩ := hp2
      refine ⟨m1, m2, m3, m4, m5, fun q1 q2 => m6 q1 ?_, m7⟩
      rcases hu with hu | hu
      · omega
      · rw [hu]; exact q2
  · have hk12 : t_kd h (c + 3) = 12 := h0.2.2.2.1.2.2.2.2.1
    have := h3.bx A (fun i hi => (h2'.2.2.2.2.2 i hi).1.k3) (neI c 5 (kd9 _ (by omega))) (fun j => neR _ _ (fun e => by rw [e.1] at hk12; omega))
    obtain ⟨a1, a2, a3, a4, a5, a6, a7, a8, a9, a10, a11⟩ := this
    have e8 := eI 8 (by omega) (by omega) (by omega) (by omega)
    refine ⟨fun j y hj => by rw [eI 17 (by omega) (by omega) (by omega) (by omega)]; exact a1 j y hj, a2, by rw [ei 19 (by omega)]; exact a3, a4, fun y hy => by rw [e8]; exact a5 y hy, fun y hy h => a6 y hy (by rw [e8] at h; exact h), a7, a8, fun y hy hk2 => by rw [eI 9 (by omega) (by omega) (by omega) (by omega)]; exact a9 y hy hk2, fun i hi => by rw [eI 10 (by omega) (by omega) (by omega) (by omega)]; exact a10 i hi, fun b hb => ?_⟩
    rw [eI 1 (by omega) (by omega) (by omega) (by omega), eI 2 (by omega) (by omega) (by omega) (by omega), stdF_q (Gq1 ol) (by rw [eI 0 (by omega) (by omega) (by omega) (by omega)])]
    exact a11 b hb
  · have hk5 : t_kd h s = 5 := h0.2.2.2.2.1
    have hk13 : t_kd h (s + 1) = 13 := h0.2.2.2.2.2.1.2.1
    refine h4.bx A (Nat.le_refl _) (fun i _ => ?_) (fun i _ => ebg i) (fun a h1 h2 => eI a (by omega) (by omega) (by omega) (by omega)) (ei 36 (by omega)) ⟨eJ 34 (by omega) (by omega), eJ 35 (by omega) (by omega)⟩ (neI s 2 (kd9 _ (by omega))) (fun i _ => neR _ _ (fun e => by rw [e.1] at hk13; omega)) (fun a ha => neI a 7 (kd9 _ (by omega))) (fun i j hi _ => neI _ _ (fun e => by
      have q1 := (h4.2.2.2.2.2.2 i hi).1
      have e2 : nd i = gm g := by omega
      rw [e2] at q1; omega))
    by_cases hig : i = g
    · subst hig; simp only [if_true]; exact ⟨[x], rfl⟩
    · simp only [if_neg hig]; exact ⟨[], rfl⟩
  · refine ⟨by rw [← hS2, mvS_i, if_pos rfl], fun i hi => ?_, hlen.2.2.eq (fun a j ha => ?_)⟩
    · by_cases hig : i = g
      · subst hig; simp only [if_true, List.length_cons]; have := hlen.2.1 i hi; omega
      · simp only [if_neg hig]; have := hlen.2.1 i hi; omega
    · by_cases q : a = 36
      · subst q; rw [eI 36 (by omega) (by omega) (by omega) (by omega)]
      · exact eg a j (by omega) (by omega)
/-- no game is pending any more -/
theorem Rel.fix (H : Rel u mo h S t c s n G N P gm nd gl nl ol kp) (hu : u < G → m_I S 8 u = 0 → IV (m_I S 13 u) 2) : Rel 16 mo h S t c s n G N P gm nd gl nl ol kp := by
  obtain ⟨h0, h1, ⟨a1, a2, a3, a4, a5, a6⟩, h3⟩ := H
  refine ⟨h0, h1, ⟨a1, a2, a3, a4, a5, fun i hi => ⟨(a6 i hi).1, ?_⟩⟩, h3⟩
  obtain ⟨m1, m2, m3, m4, m5, m6, m7⟩ := (a6 i hi).2
  refine ⟨m1, m2, m3, m4, m5, fun q _ => ?_, m7⟩
  by_cases e : i = u
  · subst e; exact hu hi q
  · exact m6 q e
theorem keeps_X9 {S : MS} {P L : Nat} {x : BW} (h21 : m_i S 21 = nI P) (hP : P < 4096) : fX9_keeps S x.1 x.2 (nI L) = some (nI P, ms_i (ms_I (ms_J (ms_J S 18 P x.1) 19 P x.2) 20 P (nI L)) 21 (nI (P + 1))) := by
  have hx := xin_nI (k := P) (n := 4096) hP (by omega)
  have hc := clp (k := P) (by omega)
  have e1 : m_i (ms_J S 18 P x.1) 21 = nI P := h21
  have e2 : m_i (ms_J (ms_J S 18 P x.1) 19 P x.2) 21 = nI P := h21
  have e3 : m_i (ms_I (ms_J (ms_J S 18 P x.1) 19 P x.2) 20 P (nI L)) 21 = nI P := h21
  have e4 : m_i (ms_i (ms_I (ms_J (ms_J S 18 P x.1) 19 P x.2) 20 P (nI L)) 21 (nI (P + 1))) 21 = nI (P + 1) := by rw [mi_i, if_pos rfl]
  unfold fX9_keeps
  rw [h21, if_pos hx, hc, e1, if_pos hx, hc, Option.bind_some, e2, if_pos hx, hc, e3, nI_1, Option.bind_some, e4, nI_pred]
/-- the class makes a move -/
theorem adv_ok (H : Rel u mo h S t c s n G N P gm nd gl nl ol kp) {g z q : Nat} {x y : BW} {l : List BW} (hg : g < G) (hl : gl g = y :: l) (h6 : t_R h (gm g) 6 = some q) (hq : WH h (bg S g) q (y :: l)) (hy : OKB y) (hz : WH h (bg S g) z (x :: gl g)) (hx : OKB x)
    (hs : ∀ i, bt ((y.1 ||| y.2) ^^^ (x.1 ||| x.2)) i = false → bt y.1 i = bt x.1 i ∧ bt y.2 i = bt x.2 i) :
    ∃ h2, fX3_advance h (gm g) (some z) = some (nI (cnt ((y.1 ||| y.2) ^^^ (x.1 ||| x.2))) - nI (cnt ((x.1 ||| x.2) &&& ((y.1 ||| y.2) ^^^ (x.1 ||| x.2)))), h2) ∧ KU (gm g + 1) (s_R h (gm g) 6 (some z)) h2 ∧ ∀ k, k < 49 → t_I h2 (gm g + 1) k = nI (lbc x k) := by
  have hk := (H.gM hg).k3
  obtain ⟨-, -, -, -, -, -, m9, m10, m11, m12⟩ := H.pm hg
  rw [hl] at m12
  have hT : inA ((y.1 ||| y.2) ^^^ (x.1 ||| x.2)) := fun i hi => by
    rw [bt_xor, bt_or, bt_or, hy.1 i hi, hy.2.1 i hi, hx.1 i hi, hx.2.1 i hi]; rfl
  obtain ⟨h2, k1, k2, k3⟩ := keepLib_X3 (p := gm g) (q := z) (h := s_R h (gm g) 6 (some z)) hy hx hT hs hk (by rw [R_sR, if_neg (by omega)]; exact m9) m10 m11 (by rw [R_sR, if_pos ⟨rfl, rfl⟩]) hz.1 hz.2.1 hz.2.2.1 (fun k hk2 => m12 y rfl k hk2)
  refine ⟨h2, ?_, k2, k3⟩
  unfold fX3_advance
  rw [if_pos hk, h6, Option.bind_some, if_pos hq.1, stones_X4 hq.1 hq.2.1 hq.2.2.1, Option.bind_some, Option.bind_some, if_pos hz.1, stones_X4 hz.1 hz.2.1 hz.2.2.1, Option.bind_some, Option.bind_some, bitCount_J, Option.bind_some, k1, Option.bind_some, bitCount_J, Option.bind_some]
/-- what a stone changes -/
theorem stone_chg {y : BW} {c : Int32} {p : Nat} (hp : p < 49) (hy : OKB y) (e1 : bt y.1 p = false) (e2 : bt y.2 p = false) :
    (∀ i, bt ((y.1 ||| y.2) ^^^ ((mvB y c (nI p)).1 ||| (mvB y c (nI p)).2)) i = false → bt y.1 i = bt (mvB y c (nI p)).1 i ∧ bt y.2 i = bt (mvB y c (nI p)).2 i) ∧
    nI (cnt ((y.1 ||| y.2) ^^^ ((mvB y c (nI p)).1 ||| (mvB y c (nI p)).2))) - nI (cnt (((mvB y c (nI p)).1 ||| (mvB y c (nI p)).2) &&& ((y.1 ||| y.2) ^^^ ((mvB y c (nI p)).1 ||| (mvB y c (nI p)).2)))) = nI (cnt (dd (othOf y.1 y.2 c) (putO y.1 y.2 c p) (othOf y.1 y.2 c))) := by
  have ho : inA (othOf y.1 y.2 c) := inA_oth hy.1 hy.2.1
  have hdis : ∀ i, bt (ownOf y.1 y.2 c) i = true → bt (othOf y.1 y.2 c) i = true → False := fun i a b => by
    unfold ownOf at a; unfold othOf at b
    by_cases hc : c = 0
    · rw [if_pos hc] at a b; exact hy.2.2 i a b
    · rw [if_neg hc] at a b; exact hy.2.2 i b a
  have hown : bt (ownOf y.1 y.2 c) p = false := by unfold ownOf; split; exact e1; exact e2
  have hoth : bt (othOf y.1 y.2 c) p = false := by unfold othOf; split; exact e2; exact e1
  have hnew : (mvB y c (nI p)).1 ||| (mvB y c (nI p)).2 = putO y.1 y.2 c p ||| putA y.1 y.2 c p := by
    rw [mvB_p hp]
    by_cases hc : c = 0
    · rw [if_pos hc]
    · rw [if_neg hc]
      exact bt_ext fun i _ => by rw [bt_or, bt_or, Bool.or_comm]
  have hA : ∀ i, bt (putA y.1 y.2 c p) i = (bt (othOf y.1 y.2 c) i && !bt (dd (othOf y.1 y.2 c) (putO y.1 y.2 c p) (othOf y.1 y.2 c)) i) := fun i => by
    unfold putA
    rw [← alv_dd ho, bt_and, bt_not]
    by_cases hi : i < 64
    · simp [hi]
    · rw [bt_big (w := othOf y.1 y.2 c) (by omega)]; simp
  have hdd : ∀ i, bt (dd (othOf y.1 y.2 c) (putO y.1 y.2 c p) (othOf y.1 y.2 c)) i = true → bt (othOf y.1 y.2 c) i = true := fun i hi => (((dead_X9 ho).2 i).mp hi).1
  generalize dd (othOf y.1 y.2 c) (putO y.1 y.2 c p) (othOf y.1 y.2 c) = D at hA hdd ⊢
  have hT : ∀ i, bt ((y.1 ||| y.2) ^^^ ((mvB y c (nI p)).1 ||| (mvB y c (nI p)).2)) i = (decide (i = p) || bt D i) := fun i => by
    rw [hnew, ← own_oth (x := y) (c := c), bt_xor, bt_or, bt_or, hA]
    unfold putO
    rw [bt_or, bt_pt (by omega)]
    by_cases hip : i = p
    · subst hip
      rw [hown, hoth]; simp
    · have := hdd i
      have h9 := hdis i
      cases q1 : bt (ownOf y.1 y.2 c) i <;> cases q2 : bt (othOf y.1 y.2 c) i <;> cases q3 : bt D i <;> simp_all
  have hDp : bt D p = false := by
    cases q : bt D p
    · rfl
    · rw [hdd p q] at hoth; cases hoth
  refine ⟨fun i hi => ?_, ?_⟩
  · rw [hT, Bool.or_eq_false_iff] at hi
    have hip : i ≠ p := by simpa using hi.1
    have o1 : bt (putO y.1 y.2 c p) i = bt (ownOf y.1 y.2 c) i := by
      unfold putO; rw [bt_or, bt_pt (by omega)]; simp [hip]
    have o2 : bt (putA y.1 y.2 c p) i = bt (othOf y.1 y.2 c) i := by rw [hA, hi.2]; simp
    rw [mvB_p hp]
    unfold ownOf at o1; unfold othOf at o2
    by_cases hc : c = 0
    · rw [if_pos hc] at o1 o2 ⊢; exact ⟨o1.symm, o2.symm⟩
    · rw [if_neg hc] at o1 o2 ⊢; exact ⟨o2.symm, o1.symm⟩
  · generalize (y.1 ||| y.2) ^^^ ((mvB y c (nI p)).1 ||| (mvB y c (nI p)).2) = T at hT ⊢
    have hTc : cnt T = cnt D + 1 := cnt_del (m := p) (by omega) (by rw [hT]; simp) (fun i _ => by
      rw [hT]
      by_cases hip : i = p
      · subst hip; rw [hDp]; simp
      · simp [hip])
    have hone : (((mvB y c (nI p)).1 ||| (mvB y c (nI p)).2) &&& T) = pt p := bt_ext fun i _ => by
      rw [bt_and, hT, hnew, bt_or, hA, bt_pt (by omega)]
      unfold putO
      rw [bt_or, bt_pt (by omega)]
      by_cases hip : i = p
      · simp [hip]
      · have := hdd i
        have h9 := hdis i
        cases q1 : bt (ownOf y.1 y.2 c) i <;> cases q2 : bt (othOf y.1 y.2 c) i <;> cases q3 : bt D i <;> simp_all
    have h1 : cnt (pt p) = 1 := by
      have := cnt_del (a := pt p) (b := 0) (m := p) (by omega) (by rw [bt_pt (by omega)]; simp) (fun i _ => by rw [bt_0, bt_pt (by omega)]; by_cases hip : i = p <;> simp [hip])
      rw [cnt_0] at this; exact this
    rw [hTc, hone, h1, pk_sub (by omega)]
    congr 1
end MOVE
/-! PURE 25: play and pass. -/
section PLAY
variable {u mo : Nat} {h : TH} {S : MS} {t c s n G N P : Nat} {gm nd : Nat → Nat} {gl nl : Nat → List BW} {ol : List Nat} {kp : Nat → Bool}
theorem spend_ok (H : Rel u mo h S t c s n G N P gm nd gl nl ol kp) {g z q : Nat} {x : BW} {l : List BW} (hg : g < G) (h8 : m_I S 8 g = 0) (hz : z ≤ 1000) (hP : P ≤ 4096) (e0 : gl g = x :: l) (a1 : t_R h (gm g) 6 = some q) (a2 : WH h (bg S g) q (x :: l)) (a6 : m_I S 12 g = nI l.length) :
    ∃ b h1 S1, fX9_runsOut S (nI g) (nI z) = some (!b, S1) ∧ Rel u mo h1 S1 t c s n G N P gm nd gl nl ol kp ∧ Bx h h1 ∧ t_R h1 = t_R h ∧ t_sz h1 = t_sz h ∧ t_kd h1 = t_kd h ∧ m_i S1 = m_i S ∧ m_j S1 = m_j S ∧ m_J S1 = m_J S ∧ (∀ x, x ≠ 14 → x ≠ 15 → m_I S1 x = m_I S x) ∧
      (b = true → fX2_spend h c (some (gm g)) (nI z) = some (true, h1)) ∧
      (b = false → ∃ h2 S2 w kp2, (w = 0 ∨ w = 1) ∧ fX2_spend h c (some (gm g)) (nI z) = some (false, h2) ∧ fX9_ends S1 (nI g) (nI w) = some S2 ∧ (1 : Int32) - nI ((bg S g + l.length) % 2) = nI w ∧ Rel u mo h2 S2 t c s n G N P gm nd gl nl (ol ++ [g]) kp2 ∧ m_i S2 47 = m_i S 47 ∧ m_I S2 8 g = nI (w + 1) ∧ t_I h2 (gm g) 8 = nI (w + 1) ∧ t_I h2 (gm g) 9 = 0 ∧ t_kd h2 (gm g) = 3) := by
  have hlen := H.2.2.2.2.2.1.2.1 g hg
  rw [e0] at hlen
  simp only [List.length_cons] at hlen
  obtain ⟨b, h1, S1, t1, t2, t3, t4, t5, t6, t7, t8, t9⟩ := take_ok H hg hz a6 (by omega)
  have hM := H.gM hg
  have hck := hM.2.2.2.2.2.2.2.2
  have hbg1 : bg S1 g = bg S g := by unfold bg; rw [t9 7 (by omega) (by omega)]
  have hR : t_R h1 = t_R h := t4.2.2.2.2.1
  have hko : fX3_clockOf h (gm g) (nI ((bg S g + l.length) % 2)) = some (some (gm g - 2 + (bg S g + l.length) % 2)) := by
    unfold fX3_clockOf
    have : (bg S g + l.length) % 2 = 0 ∨ (bg S g + l.length) % 2 = 1 := by omega
    rcases this with e | e
    · rw [e, if_pos n00, if_pos hM.k3, hck.1]; rfl
    · rw [e, if_neg (show ¬ nI 1 = 0 by decide), if_pos hM.k3, hck.2.1, show gm g - 2 + 1 = gm g - 1 by have := hM.1; omega]
  have hka : t_kd h (gm g - 2 + (bg S g + l.length) % 2) = 1 := (hck.2.2.2 _ (by omega)).1
  have hpre : fX2_spend h c (some (gm g)) (nI z) = (if b = false then (if t_kd h1 (gm g) = 3 then (fX3_wonAgainstMover h1 (gm g)).bind fun q11 => (if t_kd h1 c = 2 then (fX2_end h1 c (some (gm g)) q11).bind fun q13 => some (false, q13) else none) else none) else some (true, h1)) := by
    unfold fX2_spend
    rw [Option.bind_some, if_pos hM.k3, a1, Option.bind_some, if_pos a2.1, a2.2.2.2.1, hko, Option.bind_some, Option.bind_some, if_pos hka, t1, Option.bind_some]
  refine ⟨b, h1, S1, t2, t3, t5, hR, t4.1, t4.2.1, t6, t7, t8, t9, fun hb => by rw [hpre, hb, if_neg tf], fun hb => ?_⟩
  have a1' : t_R h1 (gm g) 6 = some q := by rw [hR]; exact a1
  have a2' : WH h1 (bg S1 g) q (x :: l) := by rw [hbg1]; exact WH.bx t5 _ q a2
  obtain ⟨w, hw, w1, w2⟩ := wonAgainst_X3 t3 hg a1' a2'
  obtain ⟨h2, S2, kp2, k1, k2, k3, k4, k5, k6, k7, k8', k9⟩ := ends_ok t3 hg (w := w) (by rw [t9 8 (by omega) (by omega)]; exact h8) hw
  refine ⟨h2, S2, w, kp2, hw, ?_, k2, by rw [← w2, hbg1], k3, by rw [k4, t6], k5, k7, k8', k9⟩
  rw [hpre, hb, if_pos rfl, if_pos (t3.gM hg).k3, w1, Option.bind_some, if_pos t3.cb.1, k1, Option.bind_some]
theorem canPlay_no {g : Nat} (hg : g < 16) {S : MS} {L : Nat} (h11 : m_I S 11 g = nI L) (hL : L < 4096) (h8 : ¬ m_I S 8 g = 0) (y : Int32) : fX9_canPlay S (nI g) y = some (false, S) := by
  unfold fX9_canPlay
  rw [if_pos (xin_nI hg (by omega)), clp (k := g) (by omega), h11, if_pos (xin_nI hL (by omega)), if_neg h8]
theorem call_play {K : Nat} (hK : K ≤ 4000) (H0 : RR mo t K h S) (x y z : Int32) : Agr mo t K [eI, eA, eS] (fX8_play h t x y z) (fX9_play S x y z) := by
  obtain ⟨c, s, n, G, N, P, gm, nd, gl, nl, ol, kp, hP, H⟩ := id H0
  have h16 := H.G16
  unfold fX8_play fX9_play
  rw [if_pos H.1.1, isGame_X9 H, Option.bind_some]
  have err : ∀ r8, r8 = some (.inr (eI, h)) → Agr (α := Int32) mo t K [eI, eA, eS] r8 (fX9_play_20 S x y z 0) :=
    fun r8 h8 => Agr.err H0 (fun n => Sq.f) (j := 0) (E := eI) (b := 0) (S2 := ms_i S 47 1) rfl (by omega) h8 (by unfold fX9_play_20; rw [if_pos rfl]; unfold fX9_play_61; rw [fails_1]; rfl) i47
  rcases matchOf_X8 H x with ⟨g, hg, rfl, e⟩ | ⟨e1, e⟩
  · rw [isN_nI hg (by omega), if_neg tf, isPoint_X9, Option.bind_some, e, Option.bind_some, xcs_1]
    dsimp only
    rw [point_X8, Option.bind_some]
    rcases isN_cases (x := y) (n := 49) (by omega) with hy | ⟨p, hp, rfl⟩
    · rw [hy, if_pos rfl, if_neg ff, xcs_2]
      exact err _ rfl
    · rw [isN_nI hp (by omega), if_pos rfl, if_neg tf, xcs_1, range_X8, Option.bind_some]
      unfold fX9_play_20
      rw [if_neg (show ¬ (1 : Int32) = 0 by decide), isIn_X9, Option.bind_some]
      have hR : (decide ((0 : Int32) ≤ z) && decide (z ≤ 1000)) = inR z 0 1000 := rfl
      rw [hR]
      cases hr : inR z 0 1000
      · rw [if_neg ff, xcs_2, if_pos rfl]
        exact Agr.err H0 (fun n => Sq.f) (j := 1) (E := eA) (b := 0) (S2 := ms_i S 47 2) rfl (by omega) rfl (by unfold fX9_play_61; rw [fails_2]; rfl) i47
      · rw [if_pos rfl, xcs_1, if_neg tf]
        obtain ⟨zz, -, hz2, rfl⟩ := inR_ex (a := 0) (b := 1000) (by omega) (by omega) hr
        obtain ⟨q, L, b, l, e0, a1, a2, a3, a4, a5, a6⟩ := H.pos hg
        have hM := (H.gM hg).2.1
        have hlen := H.2.2.2.2.2.1.2.1 g hg
        rw [e0] at hlen
        simp only [List.length_cons] at hlen
        have hL := a4.1
        have hzf : t_kd h (t_sz h) = 0 := H.2.2.2.2.2.2.z
        rw [Option.bind_some, if_pos hM.1]
        unfold fX3_goesOn
        rw [if_pos hM.1, hM.2.2.1]
        have bad : ∀ (r8 : Option ((Int32 × TH) ⊕ (String × TH))) (Sx : MS), (∀ n, Sq n S Sx) → r8 = some (.inr (eS, h)) → Agr (α := Int32) mo t K [eI, eA, eS] r8 (fX9_play_61 Sx (nI g) (nI zz) 3) :=
          fun r8 Sx hs h8 => Agr.err H0 (fun n => (hs n).tr Sq.f) (j := 2) (E := eS) (b := 0) (S2 := ms_i Sx 47 3) rfl (by omega) h8 (by unfold fX9_play_61; rw [fails_3]; rfl) i47
        by_cases h8 : m_I S 8 g = 0
        · rw [if_pos h8, Option.bind_some, if_neg tf, a1, Option.bind_some, if_pos a2.1]
          obtain ⟨o1, o2⟩ := withStone_X4 a2 a5 hp hzf (by omega)
          obtain ⟨r1, r2⟩ := canPlay_X9 (p := p) (show g < 16 by omega) (show P ≤ 4096 by omega) a3 a4 a6 a5 hp (by omega) h8
          generalize hcc : nI ((bg S g + l.length) % 2) = cc at o1 o2 r1 r2
          by_cases hok : okM b cc p (b :: l)
          · rw [o1 hok, r1 hok, Option.bind_some, Option.bind_some]
            dsimp only
            rw [if_neg tf]
            have hxx := a5.mv (c := cc) hp hok.1 hok.2.1
            have hchg := stone_chg (c := cc) hp a5 hok.1 hok.2.1
            have hput := putS_new (S := S) (x := b) (c := cc) hp
            obtain ⟨S1, hS1⟩ : ∃ S1, S1 = ms_i (putS S b.1 b.2 cc p) 47 0 := ⟨_, rfl⟩
            have es1 : ∀ n, Sq n S S1 := fun n => by rw [hS1]; exact Sq.put.tr Sq.f
            have hxt := nP_xt (h := h) (q := q) (x := mvB b cc (nI p)) (c := nI ((bg S g + (l.length + 1)) % 2)) (ps := 0) hzf
            have hWz := nP_WH (x := mvB b cc (nI p)) (c := nI ((bg S g + (l.length + 1)) % 2)) (ps := 0) a2 hzf rfl
            have hps := nP_4 (h := h) (q := q) (x := mvB b cc (nI p)) (c := nI ((bg S g + (l.length + 1)) % 2)) (ps := 0)
            have hldn := nP_ld (q := q) (x := mvB b cc (nI p)) (c := nI ((bg S g + (l.length + 1)) % 2)) (ps := 0) H.2.2.2.2.2.2
            generalize nP h q (mvB b cc (nI p)) (nI ((bg S g + (l.length + 1)) % 2)) 0 = hn at hxt hWz hps hldn ⊢
            generalize mvB b cc (nI p) = xx at hxx hchg hput hWz ⊢
            have H1 := (H.xt hxt hldn).sq (es1 n)
            have hbg1 : bg S1 g = bg S g := bg_sq (es1 0)
            have a1n : t_R hn (gm g) 6 = some q := by rw [(hxt.2 (gm g) (by have := hM.1; omega)).2]; exact a1
            have a2n : WH hn (bg S1 g) q (b :: l) := by rw [hbg1]; exact WH.bx hxt.1 _ q a2
            have a6n : m_I S1 12 g = nI l.length := by rw [(es1 0).I' 12 (by omega)]; exact a6
            have h8n : m_I S1 8 g = 0 := by rw [(es1 0).I' 8 (by omega)]; exact h8
            obtain ⟨bb, h1, S2, t2, t3, t5, tR, tz, tk, t6, t7, t8, t9, tt, tff⟩ := spend_ok H1 hg h8n hz2 (by omega) e0 a1n a2n a6n
            unfold fX8_play_40
            rw [if_neg (by simp), if_pos H1.1.1, H1.1.2.1, Option.bind_some, if_pos H1.cb.1]
            have h47 : m_i S1 47 = 0 := by rw [hS1]; exact i47
            have head : ∀ R, ((fX9_sideOf S1 (nI g) (m_I S1 12 g)).bind fun q4 => (fX9_runsOut S1 (nI g) (nI zz)).bind fun q5 => (if q5.1 = false then (fX9_keeps q5.2 (m_j q5.2 25) (m_j q5.2 26) (m_I q5.2 11 g)).bind fun q7 => (some (ms_I (ms_I q7.2 11 g q7.1) 12 g ((m_I (ms_I q7.2 11 g q7.1) 12 g) + (1 : Int32)))).bind fun W8 => some ((m_i (ms_I W8 13 g (0 : Int32)) 27), (ms_I W8 13 g (0 : Int32))) else (fX9_ends q5.2 (nI g) ((1 : Int32) - q4)).bind fun q9 => some ((-1 : Int32), q9))) = R → fX9_play_61 (putS S b.1 b.2 cc p) (nI g) (nI zz) 0 = R := by
              intro R hR2
              unfold fX9_play_61
              rw [fails_0, Option.bind_some, ← hS1]
              dsimp only
              rw [if_pos rfl, if_pos (xin_nI (show g < 16 by omega) (by omega)), clp (show g < 2 ^ 31 by omega)]
              exact hR2
            rw [a6n, sideOf_X9 (by omega) (show l.length < 5000 by omega), Option.bind_some, t2, Option.bind_some] at head
            cases bb with
            | false =>
              obtain ⟨h2, S3, w, kp2, hw, w1, w2, w3, w4, w5, -⟩ := tff rfl
              rw [hbg1] at head w3
              refine ⟨h2, S3, ⟨c, s, n, G, N, P, gm, nd, gl, nl, _, kp2, by omega, w4⟩, Or.inl ⟨-1, ?_, head _ ?_, w5.trans h47⟩⟩
              · rw [w1, Option.bind_some]
                dsimp only
                rw [if_pos rfl]
              · rw [if_neg (show ¬ ((!false) = false) by decide), w3, w2, Option.bind_some]
            | true =>
              have hbg2 : bg S2 g = bg S1 g := by unfold bg; rw [t9 7 (by omega) (by omega)]
              have a3' : m_I S2 11 g = nI L := by rw [t9 11 (by omega) (by omega), (es1 0).I' 11 (by omega)]; exact a3
              have a4' : WM S2 P L (gl g) := by
                rw [e0]
                exact WM.cg (fun M _ => ⟨by rw [t8], by rw [t8], by rw [t9 20 (by omega) (by omega)]⟩) _ _ (WM.sq (es1 0) _ _ a4)
              have hz1 : WH h1 (bg S2 g) (t_sz h) (xx :: gl g) := by rw [hbg2, hbg1, e0]; exact WH.bx t5 _ _ hWz
              have hps1 : t_I h1 (t_sz h) 4 = nI 0 := by
                have hk4 := hWz.1
                rw [((t5.2 (t_sz h) (by omega)).2.2.1 hk4).1]; exact hps
              obtain ⟨h3, k1, k2, k3⟩ := adv_ok t3 (z := t_sz h) (q := q) (x := xx) hg e0 (by rw [tR]; exact a1n) (by rw [hbg2]; exact WH.bx t5 _ q a2n) a5 hz1 hxx hchg.1
              have hmv := t3.move (z := t_sz h) (L := L) (ps := 0) (x := xx) hg hz1 hxx hps1 (by omega) a3' a4' k2 k3 (Or.inl rfl)
              have hfin := hmv.fix (fun _ _ => by rw [mvS_I, if_pos ⟨rfl, rfl⟩]; exact ⟨0, by omega, rfl⟩)
              refine ⟨h3, _, ⟨c, s, n, G, N, P + 1, gm, nd, _, nl, ol, kp, by omega, hfin⟩, Or.inl ⟨nI (cnt (dd (othOf b.1 b.2 cc) (putO b.1 b.2 cc p) (othOf b.1 b.2 cc))), ?_, head _ ?_, ?_⟩⟩
              · rw [tt rfl, Option.bind_some]
                dsimp only
                rw [if_neg tf, Option.bind_some, if_pos (t3.gM hg).k3, k1, Option.bind_some, hchg.2]
              · have j25 : m_j S2 25 = xx.1 := by rw [t7, hS1]; exact congrArg Prod.fst hput.1
                have j26 : m_j S2 26 = xx.2 := by rw [t7, hS1]; exact congrArg Prod.snd hput.1
                have h21 : m_i S2 21 = nI P := t3.2.2.2.2.2.1.1
                rw [if_pos (show (!true) = false from rfl), j25, j26, a3', keeps_X9 h21 (by omega), Option.bind_some, Option.bind_some]
                dsimp only
                have e12 : m_I (ms_I (ms_i (ms_I (ms_J (ms_J S2 18 P xx.1) 19 P xx.2) 20 P (nI L)) 21 (nI (P + 1))) 11 g (nI P)) 12 g = nI l.length := by
                  rw [mI_I, if_neg (by omega), mI_i, mI_I, if_neg (by omega), mI_J, mI_J, t9 12 (by omega) (by omega)]; exact a6n
                rw [e12, nI_1]
                have e27 : m_i S2 27 = nI (cnt (dd (othOf b.1 b.2 cc) (putO b.1 b.2 cc p) (othOf b.1 b.2 cc))) := by rw [t6, hS1, mi_i, if_neg (by omega)]; exact hput.2.2
                have el : (gl g).length = l.length + 1 := by rw [e0]; rfl
                unfold mvS
                rw [el]
                congr 2
              · rw [mvS_i, if_neg (by omega), t6]; exact h47
          · rw [o2 hok, Option.bind_some]
            obtain ⟨S2, q1, q2⟩ := r2 hok
            rw [q1, Option.bind_some]
            dsimp only
            rw [if_pos rfl]
            refine bad _ S2 q2 ?_
            unfold fX8_play_40
            rw [if_pos rfl]
            rfl
        · rw [if_neg h8, Option.bind_some, if_pos rfl, canPlay_no (L := L) (by omega) a3 (by omega) h8, Option.bind_some]
          dsimp only
          rw [if_pos rfl]
          refine bad _ S (fun n => Sq.rf) ?_
          unfold fX8_play_40
          rw [if_pos rfl]; rfl
  · rw [e1, if_pos rfl]
    refine err _ ?_
    rw [e, Option.bind_some, xcs_2]
end PLAY
/-! PURE 26: pass; player. -/
section PASS
variable {u mo : Nat} {h : TH} {S : MS} {t c s n G N P : Nat} {gm nd : Nat → Nat} {gl nl : Nat → List BW} {ol : List Nat} {kp : Nat → Bool}
theorem call_pass {K : Nat} (hK : K ≤ 4000) (H0 : RR mo t K h S) (x z : Int32) : Agr mo t K [eI, eA, eS] (fX8_pass h t x z) (fX9_pass S x z) := by
  obtain ⟨c, s, n, G, N, P, gm, nd, gl, nl, ol, kp, hP, H⟩ := id H0
  have h16 := H.G16
  unfold fX8_pass fX9_pass
  rw [if_pos H.1.1, isGame_X9 H, Option.bind_some]
  rcases matchOf_X8 H x with ⟨g, hg, rfl, e⟩ | ⟨e1, e⟩
  · rw [isN_nI hg (by omega), if_neg tf, e, Option.bind_some, xcs_1]
    dsimp only
    rw [range_X8, Option.bind_some, isIn_X9, Option.bind_some]
    have hR : (decide ((0 : Int32) ≤ z) && decide (z ≤ 1000)) = inR z 0 1000 := rfl
    rw [hR]
    cases hr : inR z 0 1000
    · rw [if_neg ff, xcs_2, if_pos rfl]
      exact Agr.err H0 (fun n => Sq.f) (j := 1) (E := eA) (b := 0) (S2 := ms_i S 47 2) rfl (by omega) rfl (by unfold fX9_pass_44; rw [fails_2]; rfl) i47
    · rw [if_pos rfl, xcs_1, if_neg tf]
      obtain ⟨zz, -, hz2, rfl⟩ := inR_ex (a := 0) (b := 1000) (by omega) (by omega) hr
      obtain ⟨q, L, b, l, e0, a1, a2, a3, a4, a5, a6⟩ := H.pos hg
      have hM := (H.gM hg).2.1
      have hlen := H.2.2.2.2.2.1.2.1 g hg
      rw [e0] at hlen
      simp only [List.length_cons] at hlen
      have hL := a4.1
      rw [requireGoesOn_X8 H hg, Option.bind_some, if_pos (xin_nI (show g < 16 by omega) (by omega)), clp (show g < 2 ^ 31 by omega)]
      by_cases h8 : m_I S 8 g = 0
      · rw [if_pos h8, if_pos h8, xcs_1, if_pos H.1.1, H.1.2.1, Option.bind_some, if_pos H.cb.1]
        obtain ⟨S1, hS1⟩ : ∃ S1, S1 = ms_i S 47 0 := ⟨_, rfl⟩
        have es1 : ∀ n, Sq n S S1 := fun n => by rw [hS1]; exact Sq.f
        have H1 := H.sq (es1 n)
        have hbg1 : bg S1 g = bg S g := bg_sq (es1 0)
        have a2n : WH h (bg S1 g) q (b :: l) := by rw [hbg1]; exact a2
        have a6n : m_I S1 12 g = nI l.length := by rw [(es1 0).I' 12 (by omega)]; exact a6
        have h8n : m_I S1 8 g = 0 := by rw [(es1 0).I' 8 (by omega)]; exact h8
        have h47 : m_i S1 47 = 0 := by rw [hS1]; exact i47
        obtain ⟨bb, h1, S2, t2, t3, t5, tR, tz, tk, t6, t7, t8, t9, tt, tff⟩ := spend_ok H1 hg h8n hz2 (by omega) e0 a1 a2n a6n
        have head : ∀ R, ((fX9_sideOf S1 (nI g) (m_I S1 12 g)).bind fun q4 => (fX9_runsOut S1 (nI g) (nI zz)).bind fun q5 => (if q5.1 = false then (if xin (m_I q5.2 11 g) 4096 = true then (fX9_keeps q5.2 (m_J q5.2 18 (m_I q5.2 11 g).toNatClampNeg) (m_J q5.2 19 (m_I q5.2 11 g).toNatClampNeg) (m_I q5.2 11 g)).bind fun q8 => (some (ms_I (ms_I q8.2 11 g q8.1) 12 g ((m_I (ms_I q8.2 11 g q8.1) 12 g) + (1 : Int32)))).bind fun W9 => (some (ms_I W9 13 g ((m_I W9 13 g) + (1 : Int32)))).bind fun W10 => (if (m_I W10 13 g) = (2 : Int32) then (fX9_scoreOf W10 (nI g)).bind fun q12 => (if q12 ≤ 0 then fX9_pass_173 W10 (nI g) (nI g) (1 : Int32) else fX9_pass_173 W10 (nI g) (nI g) (0 : Int32)) else fX9_pass_176 W10 (nI g)) else none) else (fX9_ends q5.2 (nI g) ((1 : Int32) - q4)).bind fun q14 => some ((m_I q14 8 g), q14))) = R → fX9_pass_44 S (nI g) (nI zz) 0 = R := by
          intro R hR2
          unfold fX9_pass_44
          rw [fails_0, Option.bind_some, ← hS1]
          dsimp only
          rw [if_pos rfl, if_pos (xin_nI (show g < 16 by omega) (by omega)), clp (show g < 2 ^ 31 by omega)]
          exact hR2
        rw [a6n, sideOf_X9 (by omega) (show l.length < 5000 by omega), Option.bind_some, t2, Option.bind_some] at head
        have told2' : ∀ (h' : TH) (w : Int32), t_kd h' (gm g) = 3 → t_I h' (gm g) 8 = w → t_I h' (gm g) 9 = 0 → fX8_pass_38 h' t (some (gm g)) = some (.inl (w, h')) := fun h' w b1 b2 b3 => by
          unfold fX8_pass_38 fX3_told
          rw [Option.bind_some, if_pos b1, if_pos b1, b3, if_pos rfl, b2, Option.bind_some]
        cases bb with
        | false =>
          obtain ⟨h2, S3, w, kp2, hw, w1, w2, w3, w4, w5, w6, w7, w8, w9⟩ := tff rfl
          rw [hbg1] at head w3
          refine ⟨h2, S3, ⟨c, s, n, G, N, P, gm, nd, gl, nl, _, kp2, by omega, w4⟩, Or.inl ⟨nI (w + 1), ?_, head _ ?_, w5.trans h47⟩⟩
          · rw [w1, Option.bind_some]
            dsimp only
            rw [if_pos rfl]
            exact told2' h2 _ w9 w7 w8
          · rw [if_neg (show ¬ ((!false) = false) by decide), w3, w2, Option.bind_some, w6]
        | true =>
          have hbg2 : bg S2 g = bg S1 g := by unfold bg; rw [t9 7 (by omega) (by omega)]
          have a3' : m_I S2 11 g = nI L := by rw [t9 11 (by omega) (by omega), (es1 0).I' 11 (by omega)]; exact a3
          have a4' : WM S2 P L (gl g) := by
            rw [e0]
            exact WM.cg (fun M _ => ⟨by rw [t8], by rw [t8], by rw [t9 20 (by omega) (by omega)]⟩) _ _ (WM.sq (es1 0) _ _ a4)
          have a1' : t_R h1 (gm g) 6 = some q := by rw [tR]; exact a1
          have a2' : WH h1 (bg S2 g) q (b :: l) := by rw [hbg2]; exact WH.bx t5 _ q a2n
          have hld1 := t3.2.2.2.2.2.2
          have hzf : t_kd h1 (t_sz h1) = 0 := hld1.z
          obtain ⟨q', ps0, hq1, hq2, ⟨ps, hps2, eps⟩⟩ : ∃ q' ps0, t_R h1 (gm g) 6 = some q' ∧ t_I h1 q' 4 = ps0 ∧ IV ps0 2 := by
            obtain ⟨-, ⟨q', m2, -, m3⟩, -, -, -, m6, -⟩ := t3.pm hg
            refine ⟨q', _, m2, m3, m6 (by rw [t9 8 (by omega) (by omega)]; exact h8n) (by omega)⟩
          have hqq : q' = q := by rw [a1'] at hq1; cases hq1; rfl
          subst hqq
          have h13 : m_I S2 13 g = nI ps := by
            obtain ⟨-, ⟨q2, m2, -, m3⟩, -⟩ := t3.pm hg
            rw [hq1] at m2; cases m2
            rw [← m3, hq2, eps]
          have hwp := withPassing_X4 a2' hzf
          rw [hq2, eps, nI_1] at hwp
          have hxt := nP_xt (h := h1) (q := q') (x := b) (c := nI ((bg S2 g + (l.length + 1)) % 2)) (ps := nI (ps + 1)) hzf
          have hWz := nP_WH (x := b) (c := nI ((bg S2 g + (l.length + 1)) % 2)) (ps := nI (ps + 1)) a2' hzf rfl
          have hps := nP_4 (h := h1) (q := q') (x := b) (c := nI ((bg S2 g + (l.length + 1)) % 2)) (ps := nI (ps + 1))
          have hldn := nP_ld (q := q') (x := b) (c := nI ((bg S2 g + (l.length + 1)) % 2)) (ps := nI (ps + 1)) hld1
          generalize nP h1 q' b (nI ((bg S2 g + (l.length + 1)) % 2)) (nI (ps + 1)) = hn at hxt hWz hps hldn hwp
          have H3 := t3.xt hxt hldn
          have a1n : t_R hn (gm g) 6 = some q' := by rw [(hxt.2 (gm g) (by have := (t3.gM hg).k3; omega)).2]; exact a1'
          have a2n3 : WH hn (bg S2 g) q' (b :: l) := WH.bx hxt.1 _ q' a2'
          rw [← e0] at hWz
          have hT0 : (b.1 ||| b.2) ^^^ (b.1 ||| b.2) = 0 := eq0_iff.mpr fun i => by rw [bt_xor]; simp
          obtain ⟨h3, k1, k2, k3⟩ := adv_ok H3 (z := t_sz h1) (q := q') (x := b) hg e0 a1n a2n3 a5 hWz a5 (fun i _ => ⟨rfl, rfl⟩)
          have hmv := H3.move (z := t_sz h1) (L := L) (ps := ps + 1) (x := b) hg hWz a5 hps (by omega) a3' a4' k2 k3 (Or.inl rfl)
          have hk3g : t_kd h3 (gm g) = 3 := (hmv.gM hg).k3
          have h6z : t_R h3 (gm g) 6 = some (t_sz h1) := by rw [k2.2.2.2.2.1, R_sR, if_pos ⟨rfl, rfl⟩]
          have hz4 : t_kd h3 (t_sz h1) = 4 := by rw [k2.2.1, kd_sR]; exact hWz.1
          have hz4p : t_I h3 (t_sz h1) 4 = nI (ps + 1) := by
            have hne : t_sz h1 ≠ gm g + 1 := fun e9 => by
              have k9 := (H3.pm hg).2.2.2.2.2.2.2.1
              rw [← e9] at k9
              have := hWz.1
              omega
            rw [k2.2.2.2.2.2.1 _ hne, I_sR]; exact hps
          have hpin : fX2_passIn h1 c (some (gm g)) = (if nI (ps + 1) < (2 : Int32) then some h3 else (fX3_wonByCounting h3 (gm g)).bind fun q12 => (if t_kd h3 c = 2 then (fX2_end h3 c (some (gm g)) q12).bind fun q14 => some q14 else none)) := by
            unfold fX2_passIn
            rw [Option.bind_some, if_pos (t3.gM hg).k3, a1', Option.bind_some, if_pos a2'.1, hwp, Option.bind_some]
            dsimp only
            rw [if_pos (H3.gM hg).k3, k1, Option.bind_some]
            dsimp only
            rw [if_pos hk3g, h6z, Option.bind_some, if_pos hz4, hz4p]
          have hcls : (fX2_spend h c (some (gm g)) (nI zz)).bind (fun q14 => (if q14.1 = false then fX8_pass_38 q14.2 t (some (gm g)) else (if t_kd q14.2 t = 7 then (t_R q14.2 t 0).bind fun p17 => (if t_kd q14.2 p17 = 2 then (fX2_passIn q14.2 p17 (some (gm g))).bind fun q19 => fX8_pass_38 q19 t (some (gm g)) else none) else none))) = (fX2_passIn h1 c (some (gm g))).bind fun q19 => fX8_pass_38 q19 t (some (gm g)) := by
            rw [tt rfl, Option.bind_some]
            dsimp only
            rw [if_neg tf, if_pos t3.1.1, t3.1.2.1, Option.bind_some, if_pos t3.cb.1]
          have h21 : m_i S2 21 = nI P := t3.2.2.2.2.2.1.1
          have el : (gl g).length = l.length + 1 := by rw [e0]; rfl
          have a18 : m_J S2 18 L = b.1 ∧ m_J S2 19 L = b.2 := by rw [e0] at a4'; exact ⟨a4'.2.1, a4'.2.2.1⟩
          have hmid : ∀ R, (if nI (ps + 1) = (2 : Int32) then (fX9_scoreOf (mvS S2 P g L (gl g).length b (nI (ps + 1))) (nI g)).bind fun q12 => (if q12 ≤ 0 then fX9_pass_173 (mvS S2 P g L (gl g).length b (nI (ps + 1))) (nI g) (nI g) (1 : Int32) else fX9_pass_173 (mvS S2 P g L (gl g).length b (nI (ps + 1))) (nI g) (nI g) (0 : Int32)) else fX9_pass_176 (mvS S2 P g L (gl g).length b (nI (ps + 1))) (nI g)) = R → fX9_pass_44 S (nI g) (nI zz) 0 = R := by
            intro R hR2
            apply head
            dsimp only
            rw [if_pos (show (!true) = false from rfl), a3', if_pos (xin_nI (show L < 4096 by omega) (by omega)), clp (show L < 2 ^ 31 by omega), a18.1, a18.2, keeps_X9 h21 (by omega), Option.bind_some, Option.bind_some]
            dsimp only
            have e12 : m_I (ms_I (ms_i (ms_I (ms_J (ms_J S2 18 P b.1) 19 P b.2) 20 P (nI L)) 21 (nI (P + 1))) 11 g (nI P)) 12 g = nI l.length := by
              rw [mI_I, if_neg (by omega), mI_i, mI_I, if_neg (by omega), mI_J, mI_J, t9 12 (by omega) (by omega)]; exact a6n
            rw [e12, nI_1, ← el, Option.bind_some]
            have e13 : m_I (ms_I (ms_I (ms_i (ms_I (ms_J (ms_J S2 18 P b.1) 19 P b.2) 20 P (nI L)) 21 (nI (P + 1))) 11 g (nI P)) 12 g (nI (gl g).length)) 13 g = nI ps := by
              rw [mI_I, if_neg (by omega), mI_I, if_neg (by omega), mI_i, mI_I, if_neg (by omega), mI_J, mI_J]; exact h13
            rw [e13, nI_1]
            have e13b : m_I (mvS S2 P g L (gl g).length b (nI (ps + 1))) 13 g = nI (ps + 1) := by rw [mvS_I, if_pos ⟨rfl, rfl⟩]
            change (if m_I (mvS S2 P g L (gl g).length b (nI (ps + 1))) 13 g = (2 : Int32) then (fX9_scoreOf (mvS S2 P g L (gl g).length b (nI (ps + 1))) (nI g)).bind fun q12 => (if q12 ≤ 0 then fX9_pass_173 (mvS S2 P g L (gl g).length b (nI (ps + 1))) (nI g) (nI g) (1 : Int32) else fX9_pass_173 (mvS S2 P g L (gl g).length b (nI (ps + 1))) (nI g) (nI g) (0 : Int32)) else fX9_pass_176 (mvS S2 P g L (gl g).length b (nI (ps + 1))) (nI g)) = R
            rw [e13b]; exact hR2
          have e47m : m_i (mvS S2 P g L (gl g).length b (nI (ps + 1))) 47 = 0 := by rw [mvS_i, if_neg (by omega), t6]; exact h47
          have e8m : m_I (mvS S2 P g L (gl g).length b (nI (ps + 1))) 8 g = 0 := by
            rw [mvS_I, if_neg (by omega), if_neg (by omega), if_neg (by omega), if_neg (by omega), t9 8 (by omega) (by omega)]; exact h8n
          have i2 : (2 : Int32) = nI 2 := by decide
          by_cases hp1 : ps = 1
          · subst hp1
            obtain ⟨v, v1, v2⟩ := score_ok hmv (by omega) hg
            have hwc : ∃ w, (w = 0 ∨ w = 1) ∧ fX3_wonByCounting h3 (gm g) = some (nI (w + 1)) ∧ (if v ≤ 0 then fX9_pass_173 (mvS S2 P g L (gl g).length b (nI (1 + 1))) (nI g) (nI g) (1 : Int32) else fX9_pass_173 (mvS S2 P g L (gl g).length b (nI (1 + 1))) (nI g) (nI g) (0 : Int32)) = fX9_pass_173 (mvS S2 P g L (gl g).length b (nI (1 + 1))) (nI g) (nI g) (nI w) := by
              unfold fX3_wonByCounting
              rw [if_pos hk3g, v1, Option.bind_some]
              by_cases hv : v ≤ 0
              · rw [if_pos hv, if_pos hv]; exact ⟨1, Or.inr rfl, rfl, rfl⟩
              · rw [if_neg hv, if_neg hv]; exact ⟨0, Or.inl rfl, rfl, rfl⟩
            obtain ⟨w, hw, w1, w2⟩ := hwc
            obtain ⟨h4, S4, kp2, x1, x2, x3, x4, x5, x6, x7, x8, x9⟩ := ends_ok hmv hg (w := w) e8m hw
            have hfin := x3.fix (fun _ q9 => by rw [x5] at q9; rcases hw with rfl | rfl <;> exact absurd q9 (by decide))
            refine ⟨h4, S4, ⟨c, s, n, G, N, P + 1, gm, nd, _, nl, _, kp2, by omega, hfin⟩, Or.inl ⟨nI (w + 1), ?_, hmid _ ?_, x4.trans e47m⟩⟩
            · rw [hcls, hpin, if_neg (by decide), w1, Option.bind_some, if_pos hmv.cb.1, x1, Option.bind_some, Option.bind_some]
              exact told2' h4 _ x9 x7 x8
            · rw [if_pos (by decide), v2, Option.bind_some, w2]
              unfold fX9_pass_173 fX9_pass_176
              rw [x2, Option.bind_some, if_pos (xin_nI (show g < 16 by omega) (by omega)), clp (show g < 2 ^ 31 by omega), x5]
          · have hp0 : ps = 0 := by omega
            subst hp0
            have hfin := hmv.fix (fun _ _ => by rw [mvS_I, if_pos ⟨rfl, rfl⟩]; exact ⟨1, by omega, rfl⟩)
            refine ⟨h3, _, ⟨c, s, n, G, N, P + 1, gm, nd, _, nl, ol, kp, by omega, hfin⟩, Or.inl ⟨0, ?_, hmid _ ?_, e47m⟩⟩
            · rw [hcls, hpin, if_pos (by decide), Option.bind_some]
              have hM3 := (hmv.gM hg).2.1
              refine told2' h3 _ hk3g (hM3.2.2.1.trans e8m) (hM3.2.1.trans ?_)
              exact (hmv.gM hg).2.2.2.2.2.2.2.1 e8m
            · rw [if_neg (by decide)]
              unfold fX9_pass_176
              rw [if_pos (xin_nI (show g < 16 by omega) (by omega)), clp (show g < 2 ^ 31 by omega), e8m]
      · rw [if_neg h8, if_neg h8, xcs_2]
        exact Agr.err H0 (fun n => Sq.f) (j := 2) (E := eS) (b := 0) (S2 := ms_i S 47 3) rfl (by omega) rfl (by unfold fX9_pass_44; rw [fails_3]; rfl) i47
  · rw [e1, if_pos rfl, e, Option.bind_some, xcs_2]
    exact Agr.err H0 (fun n => Sq.f) (j := 0) (E := eI) (b := 0) (S2 := ms_i S 47 1) rfl (by omega) rfl (by unfold fX9_pass_44; rw [fails_1]; rfl) i47
/-- player -/
theorem call_player {K : Nat} (H0 : RR mo t K h S) (x : Int32) : Agr mo t K [eA, eS] (fX8_player h t x) (fX9_player S x) := by
  obtain ⟨c, s, n, G, N, P, gm, nd, gl, nl, ol, kp, hP, H⟩ := id H0
  have h8 := H.2.1.1
  have hkc : t_kd h c = 2 := H.cb.1
  unfold fX8_player fX9_player
  rw [range_X8, Option.bind_some, isIn_X9, Option.bind_some]
  have hR : (decide ((0 : Int32) ≤ x) && decide (x ≤ 20)) = inR x 0 20 := rfl
  rw [hR]
  cases hr : inR x 0 20
  · rw [if_neg ff, xcs_2, if_pos rfl]
    exact Agr.err H0 (fun n => Sq.f) (j := 0) (E := eA) (b := 0) (S2 := ms_i S 47 1) rfl (by omega) rfl (by unfold fX9_player_29; rw [fails_1]; rfl) i47
  · rw [if_pos rfl, xcs_1, if_neg tf, if_pos H.1.1, H.1.2.1, Option.bind_some, if_pos hkc]
    obtain ⟨r, -, hr2, rfl⟩ := inR_ex (a := 0) (b := 20) (by omega) (by omega) hr
    unfold fX2_enrol
    rw [if_pos hkc, H.2.1.2.1, if_neg (nI_pos (by omega)), H.cb.2.1.1, Option.bind_some, if_pos H.cb.2.1.2.1, H.cb.2.1.2.2, H.2.1.2.2.1]
    by_cases hn : n = 8
    · subst hn
      rw [if_neg (nI_nlt (Nat.le_refl 8) (by omega)), if_pos (show nI 8 = 8 from rfl), Option.bind_some]
      dsimp only
      rw [if_neg (by decide)]
      exact Agr.err H0 (fun n => Sq.f) (j := 1) (E := eS) (b := 0) (S2 := ms_i S 47 2) rfl (by omega) rfl (by unfold fX9_player_29; rw [fails_2]; rfl) i47
    · have hn8 : n < 8 := by omega
      have hc1 : c + 1 ≠ c := by omega
      have e1 : t_I (s_I h (c + 1) n (nI r)) c 1 = nI n := by rw [I_sI, if_neg (fun z => hc1 z.1.symm)]; exact H.2.1.2.1
      rw [if_pos (nI_lt hn8 (by omega)), if_pos (xin_nI hn8 (by omega)), clp (by omega), e1, nI_1, Option.bind_some]
      dsimp only
      rw [if_pos (show (0 : Int32) ≤ nI n from nI_pos' (by omega)), if_neg (show ¬ nI n = 8 from fun z => hn ((nI_eq (by omega) (by omega)).mp (z.trans (show (8 : Int32) = nI 8 by decide))))]
      have h9 : fX9_player_29 S (nI r) 0 = some (nI n, ms_i (ms_I (ms_I (ms_i S 47 0) 0 n (nI r)) 1 n (nI r)) 0 (nI (n + 1))) := by
        unfold fX9_player_29
        rw [fails_0, Option.bind_some]
        dsimp only
        have q0 : m_i (ms_i S 47 0) 0 = nI n := by rw [mi_i, if_neg (by omega)]; exact H.2.1.2.2.1
        have q1 : m_i (ms_I (ms_i S 47 0) 0 n (nI r)) 0 = nI n := q0
        have q2 : m_i (ms_I (ms_I (ms_i S 47 0) 0 n (nI r)) 1 n (nI r)) 0 = nI n := q0
        have q3 : m_i (ms_i (ms_I (ms_I (ms_i S 47 0) 0 n (nI r)) 1 n (nI r)) 0 (nI (n + 1))) 0 = nI (n + 1) := by rw [mi_i, if_pos rfl]
        rw [if_pos rfl, q0, if_pos (xin_nI hn8 (by omega)), clp (show n < 2 ^ 31 by omega), q1, if_pos (xin_nI hn8 (by omega)), clp (show n < 2 ^ 31 by omega), Option.bind_some, q2, nI_1, q3, nI_pred]
      rw [h9]
      have hk9 : t_kd h (c + 1) = 9 := H.cb.2.1.2.1
      have A : Bx h (s_I (s_I h (c + 1) n (nI r)) c 1 (nI (n + 1))) := (Bx.rf.I (Or.inr (Or.inl hk9))).I (Or.inr (Or.inr (Or.inl hkc)))
      have neI : ∀ a j, a ≠ c + 1 → a ≠ c → t_I (s_I (s_I h (c + 1) n (nI r)) c 1 (nI (n + 1))) a j = t_I h a j := fun a j b1 b2 => by rw [I_sI, if_neg (fun z => b2 z.1), I_sI, if_neg (fun z => b1 z.1)]
      have cI : ∀ j, j ≠ 1 → t_I (s_I (s_I h (c + 1) n (nI r)) c 1 (nI (n + 1))) c j = t_I h c j := fun j b1 => by rw [I_sI, if_neg (fun z => b1 z.2), I_sI, if_neg (fun z => hc1 z.1.symm)]
      have cI1 : t_I (s_I (s_I h (c + 1) n (nI r)) c 1 (nI (n + 1))) c 1 = nI (n + 1) := by rw [I_sI, if_pos ⟨rfl, rfl⟩]
      have cJ : ∀ j, t_I (s_I (s_I h (c + 1) n (nI r)) c 1 (nI (n + 1))) (c + 1) j = if j = n then nI r else t_I h (c + 1) j := fun j => by rw [I_sI, if_neg (fun z => hc1 z.1), I_sI]; simp
      have hR : t_R (s_I (s_I h (c + 1) n (nI r)) c 1 (nI (n + 1))) = t_R h := rfl
      have hld : LDp mo (s_I (s_I h (c + 1) n (nI r)) c 1 (nI (n + 1))) := H.2.2.2.2.2.2
      generalize s_I (s_I h (c + 1) n (nI r)) c 1 (nI (n + 1)) = h2 at A neI cI cI1 cJ hR hld ⊢
      have eI : ∀ a, a ≠ 0 → a ≠ 1 → m_I (ms_i (ms_I (ms_I (ms_i S 47 0) 0 n (nI r)) 1 n (nI r)) 0 (nI (n + 1))) a = m_I S a := fun a b1 b2 => by
        funext j; rw [mI_i, mI_I, if_neg (fun z => b2 z.1), mI_I, if_neg (fun z => b1 z.1), mI_i]
      have e0 : ∀ j, m_I (ms_i (ms_I (ms_I (ms_i S 47 0) 0 n (nI r)) 1 n (nI r)) 0 (nI (n + 1))) 0 j = if j = n then nI r else m_I S 0 j := fun j => by
        rw [mI_i, mI_I, if_neg (by omega), mI_I, mI_i]; simp
      have e1' : ∀ j, m_I (ms_i (ms_I (ms_I (ms_i S 47 0) 0 n (nI r)) 1 n (nI r)) 0 (nI (n + 1))) 1 j = if j = n then nI r else m_I S 1 j := fun j => by
        rw [mI_i, mI_I, mI_I, mI_i]; simp
      have ei : ∀ k, k ≠ 0 → k ≠ 47 → m_i (ms_i (ms_I (ms_I (ms_i S 47 0) 0 n (nI r)) 1 n (nI r)) 0 (nI (n + 1))) k = m_i S k := fun k b1 b2 => by
        rw [mi_i, if_neg b1]; exact (mi_i ..).trans (if_neg b2)
      have ei0 : m_i (ms_i (ms_I (ms_I (ms_i S 47 0) 0 n (nI r)) 1 n (nI r)) 0 (nI (n + 1))) 0 = nI (n + 1) := by rw [mi_i, if_pos rfl]
      have e47 : m_i (ms_i (ms_I (ms_I (ms_i S 47 0) 0 n (nI r)) 1 n (nI r)) 0 (nI (n + 1))) 47 = 0 := by rw [mi_i, if_neg (by omega)]; exact i47 (S := S)
      have eJ : m_J (ms_i (ms_I (ms_I (ms_i S 47 0) 0 n (nI r)) 1 n (nI r)) 0 (nI (n + 1))) = m_J S := rfl
      generalize ms_i (ms_I (ms_I (ms_i S 47 0) 0 n (nI r)) 1 n (nI r)) 0 (nI (n + 1)) = S2 at eI e0 e1' ei ei0 e47 eJ ⊢
      refine ⟨h2, S2, ⟨c, s, n + 1, G, N, P, gm, nd, gl, nl, ol, kp, by omega, ?_⟩, Or.inl ⟨nI n, rfl, rfl, e47⟩⟩
      have hgon := H.gon
      have Gq1 : ∀ l, Gq S S2 l := fun l y _ => by rw [eI 9 (by omega) (by omega), eI 5 (by omega) (by omega), eI 6 (by omega) (by omega), eI 8 (by omega) (by omega)]; exact ⟨rfl, rfl, rfl, rfl⟩
      obtain ⟨h0, ⟨r1, r2, r3, r4⟩, ⟨a1, a2, a3, a4, a5, a6⟩, h3, h4, h5, h6⟩ := H
      refine ⟨h0.bx A, ⟨by omega, cI1, ei0, fun a ha => ?_⟩, ⟨a1, by rw [cI 3 (by omega)]; exact a2, by rw [ei 4 (by omega) (by omega)]; exact a3, fun i hi => by rw [hR]; exact a4 i hi, a5, fun i hi => ?_⟩, ?_, ?_, ?_, hld⟩
      · rw [cJ, e0]
        by_cases q : a = n
        · rw [if_pos q, if_pos q]; exact ⟨rfl, r, by omega, rfl⟩
        · rw [if_neg q, if_neg q]; exact r4 a (by omega)
      · obtain ⟨b1, b2⟩ := a6 i hi
        have k3 := b1.k3
        have k9 := b2.2.2.2.2.2.2.2.1
        have hkept : ∀ k, k < 49 → t_I h2 (gm i + 1) k = t_I h (gm i + 1) k := fun k hk => by
          by_cases q : gm i + 1 = c + 1
          · have : gm i = c := by omega
            rw [this] at k3; omega
          · exact neI _ _ q (kd_ne (h := h) (by omega))
        have hp : PM 16 h2 S P (gm i) i (gl i) := b2.bx A k3 (by rw [hR]) hkept
        have hg : GM h2 S n (gm i) i := b1.bx A (neI _ _ (kd_ne (h := h) (by omega)) (kd_ne (h := h) (by omega))) (neI _ _ (kd_ne (h := h) (by omega)) (kd_ne (h := h) (by omega))) (fun k j hk2 _ => by
          have := (b1.2.2.2.2.2.2.2.2.2.2.2 k hk2).1
          exact neI _ _ (kd_ne (h := h) (by omega)) (kd_ne (h := h) (by omega)))
        have hg2 : GM h2 S2 n (gm i) i := hg.cg (fun a b1 b2 => by rw [eI a (by omega) (by omega)]) (fun k _ => by rw [eI 14 (by omega) (by omega), eI 15 (by omega) (by omega)]; exact ⟨rfl, rfl⟩) (by rw [eI 16 (by omega) (by omega)])
        refine ⟨?_, hp.cg (Nat.le_refl _) (fun a ha => by rw [eI a (by omega) (by omega)]) (fun L _ => by rw [eJ, eI 20 (by omega) (by omega)]; exact ⟨rfl, rfl, rfl⟩)⟩
        obtain ⟨c1, c2, ⟨a, b, ha, hb, c3⟩, c4⟩ := hg2
        exact ⟨c1, c2, ⟨a, b, by omega, by omega, c3⟩, c4⟩
      · have := h3.bx A (fun i hi => (a6 i hi).1.k3) (cI 5 (by omega)) (fun j => by rw [hR])
        obtain ⟨b1, b2, b3, b4, b5, b6, b7, b8, b9, b10, b11⟩ := this
        have e8 := eI 8 (by omega) (by omega)
        refine ⟨fun j y hj => by rw [eI 17 (by omega) (by omega)]; exact b1 j y hj, b2, by rw [ei 19 (by omega) (by omega)]; exact b3, b4, fun y hy => by rw [e8]; exact b5 y hy, fun y hy h => b6 y hy (by rw [e8] at h; exact h), b7, b8, fun y hy hk2 => by rw [eI 9 (by omega) (by omega)]; exact b9 y hy hk2, fun i hi => by rw [eI 10 (by omega) (by omega)]; exact b10 i hi, fun b hb => ?_⟩
        have hb11 := b11 b hb
        rw [e1', eI 2 (by omega) (by omega)]
        by_cases q : b = n
        · subst q
          rw [if_neg (by omega)] at hb11
          have hb12 : m_I S 2 b = 0 := congrArg Prod.snd hb11
          rw [if_pos rfl, if_pos (by omega), hb12]
          unfold stdF
          rw [e0, if_pos rfl, gfold_q ol _ (Gq1 ol), gfold_out (Nat.le_refl b) hb ol _ hgon]
        · rw [if_neg q, hb11, stdF_q (Gq1 ol) (by rw [e0, if_neg q])]
          by_cases q2 : b < n
          · rw [if_pos q2, if_pos (by omega)]
          · rw [if_neg q2, if_neg (by omega)]
      · have hk5 : t_kd h s = 5 := h0.2.2.2.2.1
        refine h4.bx A (Nat.le_refl _) (fun i _ => ⟨[], rfl⟩) (fun i _ => by unfold bg; rw [eI 7 (by omega) (by omega)]) (fun a b1 b2 => eI a (by omega) (by omega)) (ei 36 (by omega) (by omega)) ⟨by rw [eJ], by rw [eJ]⟩ (neI s 2 (kd_ne (h := h) (by omega)) (kd_ne (h := h) (by omega))) (fun i _ => by rw [hR]) (fun a ha => neI a 7 (kd_ne (h := h) (by omega)) (kd_ne (h := h) (by omega))) (fun i j hi _ => ?_)
        have q1 := (h4.2.2.2.2.2.2 i hi).1
        have q9 := (h4.2.2.2.2.2.2 i hi).2.2.2.2.1.2.1
        refine neI _ _ (fun e => ?_) (kd_ne (h := h) (by omega))
        have : nd i = c := by omega
        rw [this] at q1; omega
      · exact h5.eq (ei 21 (by omega) (by omega)) (fun a j ha => by rw [eI a (by omega) (by omega)])
end PASS
