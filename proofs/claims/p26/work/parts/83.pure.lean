/-! PURE 38: a child more. -/
/-- the game of a node -/
def gOf (S : MS) (i : Nat) : Nat := (m_I S 31 (m_I S 29 i).toNatClampNeg).toNatClampNeg
section CHILD2
variable {u mo : Nat} {h : TH} {S : MS} {t c s n G N P : Nat} {gm nd : Nat → Nat} {gl nl : Nat → List BW} {ol : List Nat} {kp : Nat → Bool}
/-- what a node is, with its game -/
theorem Rel.node_g (H : Rel u mo h S t c s n G N P gm nd gl nl ol kp) {i : Nat} (hi : i < N) : ∃ rt, rt ≤ i ∧ m_I S 29 i = nI rt ∧ t_I h (nd i) 1 = nI rt ∧ gOf S i < G ∧ m_I S 31 rt = nI (gOf S i) ∧ t_I h (nd i) 2 = nI (gOf S i) ∧
    (∃ q, t_R h (nd i) 5 = some q ∧ WH h (bg S (gOf S i)) q (nl i)) ∧ (nl i).head? = some (m_J S 34 i, m_J S 35 i) ∧ m_I S 33 i = nI ((bg S (gOf S i) + ((nl i).length - 1)) % 2) ∧
    ((rt = i ∧ m_I S 28 i = -1 ∧ t_R h (nd i) 3 = none ∧ m_I S 30 i = -2 ∧ m_I S 32 i = nI ((nl i).length - 1) ∧ ∃ pre, gl (gOf S i) = pre ++ nl i) ∨
     (∃ pr, pr < i ∧ m_I S 28 i = nI pr ∧ m_I S 29 pr = nI rt ∧ t_R h (nd i) 3 = some (nd pr) ∧ (m_I S 30 i = -1 ∨ IV (m_I S 30 i) 49) ∧ nl i = mvB (m_J S 34 pr, m_J S 35 pr) (m_I S 33 pr) (m_I S 30 i) :: nl pr)) := by
  have h60 := H.N60
  have h16 := H.G16
  obtain ⟨-, -, -, -, -, -, rt, g, d1, d2, d3, d4, d5, d6, d7, d8, d9, d10⟩ := H.nm hi
  have e : gOf S i = g := by
    unfold gOf
    rw [d2, clp (show rt < 2 ^ 31 by omega), d5, clp (show g < 2 ^ 31 by omega)]
  rw [e]
  exact ⟨rt, d1, d2, d3, d4, d5, d6, d7, d8, d9, d10⟩
theorem nl_len (H : Rel u mo h S t c s n G N P gm nd gl nl ol kp) : ∀ i, i < N → (nl i).length ≤ P + i + 1 := by
  intro i
  induction i using Nat.strongRecOn with
  | ind i ih =>
    intro hi
    obtain ⟨rt, -, -, -, hg, -, -, -, -, -, d⟩ := H.node_g hi
    rcases d with ⟨-, -, -, -, -, pre, e⟩ | ⟨pr, hp, -, -, -, -, e⟩
    · have := H.2.2.2.2.2.1.2.1 _ hg
      rw [e, List.length_append] at this
      omega
    · have := ih pr hp (by omega)
      rw [e, List.length_cons]
      omega
theorem Rel.okb (H : Rel u mo h S t c s n G N P gm nd gl nl ol kp) {i : Nat} (hi : i < N) : ∀ x ∈ nl i, OKB x := (H.nm hi).2.2.2.2.2.1
/-- both make a child -/
theorem grow_ok (H : Rel u mo h S t c s n G N P gm nd gl nl ol kp) (hN : N < 60) {pr q : Nat} {v sd : Int32} {x : BW} (hp : pr < N) (hx : OKB x) (hv : v = -1 ∨ IV v 49) (hm : x = mvB (m_J S 34 pr, m_J S 35 pr) (m_I S 33 pr) v)
    (hq : WH h (bg S (gOf S pr)) q (x :: nl pr)) (hsd : sd = nI ((bg S (gOf S pr) + (nl pr).length) % 2)) (hno : ∀ k, k < N → ¬ (m_I S 28 k = nI pr ∧ m_I S 30 k = v)) :
    ∃ h2, fX6_grow h s (some (nd pr)) v (some q) = some (some (t_sz h), h2) ∧ fX9_makes S (nI pr) v x.1 x.2 sd = some (nI N, mkS S N (nI pr) v x.1 x.2 sd (m_I S 29 pr)) ∧
      Rel u mo h2 (mkS S N (nI pr) v x.1 x.2 sd (m_I S 29 pr)) t c s n G (N + 1) P gm (upN nd N (t_sz h)) gl (upN nl N (x :: nl pr)) ol kp ∧
      (∀ a, t_kd h a ≠ 0 → a ≠ s + 1 → t_R h2 a = t_R h a) ∧ Bx h h2 ∧ t_kd h2 (t_sz h) = 6 ∧ t_I h2 (t_sz h) 0 = nI N := by
  have h60 := H.N60
  have h16 := H.G16
  have hk5 : t_kd h s = 5 := H.1.2.2.2.2.1
  obtain ⟨r0, r13, r60⟩ := H.1.2.2.2.2.2.1
  have h36 : m_i S 36 = nI N := H.2.2.2.2.1.2.2.1
  have hs2 : t_I h s 2 = nI N := H.2.2.2.2.1.2.1
  have hld := H.2.2.2.2.2.2
  have hz0 := hld.z
  have hz1 : t_kd h (t_sz h + 1) = 0 := hld.2.2 _ (by omega)
  have hsz : s ≠ t_sz h := fun e => by rw [← e] at hz0; omega
  have hk6 : t_kd h (nd pr) = 6 := (H.nm hp).1
  have hpz : nd pr ≠ t_sz h := fun e => by rw [← e] at hz0; omega
  have hps : nd pr ≠ s := fun e => by rw [e] at hk6; omega
  obtain ⟨rt, hrt, g29, g1, gG, g31, g2, -, g34, g33, -⟩ := H.node_g hp
  have hls := H.okb hp
  generalize hgg : gOf S pr = g at *
  have e2 : t_I (s_N h 6 0) s 2 = nI N := by rw [I_sN, if_neg hsz]; exact hs2
  have ek5 : t_kd (s_N h 6 0) s = 5 := by rw [kd_sN, if_neg hsz]; exact hk5
  have ek6 : t_kd (s_N h 6 0) (nd pr) = 6 := by rw [kd_sN, if_neg hpz]; exact hk6
  have ei1 : t_I (s_N h 6 0) (nd pr) 1 = nI rt := by rw [I_sN, if_neg hpz]; exact g1
  have ei2 : t_I (s_N h 6 0) (nd pr) 2 = nI g := by rw [I_sN, if_neg hpz]; exact g2
  unfold fX6_grow
  rw [if_neg (by simp), if_pos hk5, isFull_X6 H, Option.bind_some, decide_eq_true hN, if_pos (show (!true) = false from rfl), if_pos ek5, Option.bind_some, if_pos ek6, e2, ei1, ei2, nT_init, Option.bind_some]
  have hxt : Xt h (nT h (nI N) (nI rt) (nI g) (some (nd pr)) v (some q)) := nT_xt hz0 hz1
  have hldn : LDp mo (nT h (nI N) (nI rt) (nI g) (some (nd pr)) v (some q)) := nT_ld hld
  have k6 : t_kd (nT h (nI N) (nI rt) (nI g) (some (nd pr)) v (some q)) (t_sz h) = 6 := by rw [nT_kd, if_neg (by omega), if_pos rfl]
  have k9 : t_kd (nT h (nI N) (nI rt) (nI g) (some (nd pr)) v (some q)) (t_sz h + 1) = 9 := by rw [nT_kd, if_pos rfl]
  have l4 : t_ln (nT h (nI N) (nI rt) (nI g) (some (nd pr)) v (some q)) (t_sz h + 1) = 4 := by rw [nT_ln, if_pos rfl]
  obtain ⟨i0, i1, i2, i4, i7, im⟩ := nT_I (h := h) (i := nI N) (rt := nI rt) (g := nI g) (par := some (nd pr)) (pt := v) (pos := some q)
  obtain ⟨r3, r5, r6⟩ := nT_R (h := h) (i := nI N) (rt := nI rt) (g := nI g) (par := some (nd pr)) (pt := v) (pos := some q)
  generalize hz : t_sz h = z at *
  generalize nT h (nI N) (nI rt) (nI g) (some (nd pr)) v (some q) = hn at *
  have kn13 := hxt.1.kd r13
  have kn5 := hxt.1.kd hk5
  have kn6 := hxt.1.kd hk6
  have ln60 := hxt.1.ln r13 r60
  have eall : (some z).all (fun b => t_kd hn b == 6) = true := by simp [k6]
  have er0 : t_R hn s 0 = some (s + 1) := by rw [(hxt.2 s (by omega)).2]; exact r0
  have ei0 : t_I hn s 2 = nI N := by rw [(hxt.2 s (by omega)).1]; exact hs2
  have es2 : t_I (s_R hn (s + 1) N (some z)) s 2 = nI N := by rw [I_sR]; exact ei0
  rw [if_pos kn5, er0, Option.bind_some, if_pos kn13, ei0, ln60, if_pos (xin_nI hN (by omega)), clp (show N < 2 ^ 31 by omega), if_pos eall, es2, nI_1, Option.bind_some, kd_sI, kd_sR, if_pos kn6]
  have hmk := makes_X9 (S := S) (N := N) (par := nI pr) (pt := v) (sd := sd) (rt := m_I S 29 pr) (b := x.1) (w := x.2) h36 hN (Or.inr ⟨pr, by omega, rfl, by omega, rfl⟩)
  refine ⟨_, rfl, hmk, ?_⟩
  have e28 : m_I (mkS S N (nI pr) v x.1 x.2 sd (m_I S 29 pr)) 28 N = nI pr := by rw [mkS_I, if_neg (by omega), if_neg (by omega), if_neg (by omega), if_pos ⟨rfl, rfl⟩]
  have e30 : m_I (mkS S N (nI pr) v x.1 x.2 sd (m_I S 29 pr)) 30 N = v := by rw [mkS_I, if_neg (by omega), if_neg (by omega), if_pos ⟨rfl, rfl⟩]
  have e33 : m_I (mkS S N (nI pr) v x.1 x.2 sd (m_I S 29 pr)) 33 N = sd := by rw [mkS_I, if_neg (by omega), if_pos ⟨rfl, rfl⟩]
  have e29 : m_I (mkS S N (nI pr) v x.1 x.2 sd (m_I S 29 pr)) 29 N = nI rt := by rw [mkS_I, if_pos ⟨rfl, rfl⟩]; exact g29
  have e34 : m_J (mkS S N (nI pr) v x.1 x.2 sd (m_I S 29 pr)) 34 N = x.1 := by rw [mkS_J, if_neg (by omega), if_pos ⟨rfl, rfl⟩]
  have e35 : m_J (mkS S N (nI pr) v x.1 x.2 sd (m_I S 29 pr)) 35 N = x.2 := by rw [mkS_J, if_pos ⟨rfl, rfl⟩]
  have ei : ∀ k, k ≠ 36 → m_i (mkS S N (nI pr) v x.1 x.2 sd (m_I S 29 pr)) k = m_i S k := fun k hk => by rw [mkS_i, if_neg hk]
  have e36 : m_i (mkS S N (nI pr) v x.1 x.2 sd (m_I S 29 pr)) 36 = nI (N + 1) := by rw [mkS_i, if_pos rfl]
  have eI : ∀ a, a < 28 ∨ 33 < a → m_I (mkS S N (nI pr) v x.1 x.2 sd (m_I S 29 pr)) a = m_I S a := fun a ha => by
    funext j
    rw [mkS_I, if_neg (by omega), if_neg (by omega), if_neg (by omega), if_neg (by omega)]
  have e31 : m_I (mkS S N (nI pr) v x.1 x.2 sd (m_I S 29 pr)) 31 rt = nI g := by
    rw [mkS_I, if_neg (by omega), if_neg (by omega), if_neg (by omega), if_neg (by omega)]; exact g31
  have eN : ∀ a j, j ≠ N → m_I (mkS S N (nI pr) v x.1 x.2 sd (m_I S 29 pr)) a j = m_I S a j := fun a j ha => by
    rw [mkS_I, if_neg (fun z => ha z.2), if_neg (fun z => ha z.2), if_neg (fun z => ha z.2), if_neg (fun z => ha z.2)]
  have eJ : ∀ a, a ≠ 34 → a ≠ 35 → m_J (mkS S N (nI pr) v x.1 x.2 sd (m_I S 29 pr)) a = m_J S a := fun a b1 b2 => by
    funext j
    rw [mkS_J, if_neg (fun z => b2 z.1), if_neg (fun z => b1 z.1)]
  have eJN : ∀ a j, j ≠ N → m_J (mkS S N (nI pr) v x.1 x.2 sd (m_I S 29 pr)) a j = m_J S a j := fun a j ha => by
    rw [mkS_J, if_neg (fun z => ha z.2), if_neg (fun z => ha z.2)]
  generalize mkS S N (nI pr) v x.1 x.2 sd (m_I S 29 pr) = S2 at *
  have hbg2 : bg S2 g = bg S g := by unfold bg; rw [eI 7 (by omega)]
  have ew7 : t_I (s_I (s_R hn (s + 1) N (some z)) s 2 (nI (N + 1))) (nd pr) 7 = t_I h (nd pr) 7 := by
    rw [I_sI, if_neg (fun e => hps e.1), I_sR, (hxt.2 (nd pr) (by omega)).1]
  rw [ew7]
  have zs : z ≠ s := fun e => hsz e.symm
  have zs1 : z ≠ s + 1 := fun e => by rw [e, r13] at hz0; cases hz0
  have z1s : z + 1 ≠ s := fun e => by rw [e, hk5] at hz1; cases hz1
  have zp : z ≠ nd pr := fun e => hpz e.symm
  have z1p : z + 1 ≠ nd pr := fun e => by rw [e, hk6] at hz1; cases hz1
  generalize hh2 : s_I (s_I (s_R hn (s + 1) N (some z)) s 2 (nI (N + 1))) (nd pr) 7 (t_I h (nd pr) 7 + 1) = h2
  have hIn : ∀ a j, ¬ (a = s ∧ j = 2) → ¬ (a = nd pr ∧ j = 7) → t_I h2 a j = t_I hn a j := fun a j b1 b2 => by rw [← hh2, I_sI, if_neg b2, I_sI, if_neg b1, I_sR]
  have hRn : ∀ a j, ¬ (a = s + 1 ∧ j = N) → t_R h2 a j = t_R hn a j := fun a j b1 => by rw [← hh2, R_sI, R_sI, R_sR, if_neg b1]
  have hRs : t_R h2 (s + 1) N = some z := by rw [← hh2, R_sI, R_sI, R_sR, if_pos ⟨rfl, rfl⟩]
  have hIs : t_I h2 s 2 = nI (N + 1) := by rw [← hh2, I_sI, if_neg (fun e => hps e.1.symm), I_sI, if_pos ⟨rfl, rfl⟩]
  have hIp : t_I h2 (nd pr) 7 = t_I h (nd pr) 7 + 1 := by rw [← hh2, I_sI, if_pos ⟨rfl, rfl⟩]
  have hkd : ∀ a, t_kd h2 a = t_kd hn a := fun a => by rw [← hh2, kd_sI, kd_sI, kd_sR]
  have hln : ∀ a, t_ln h2 a = t_ln hn a := fun a => by rw [← hh2, ln_sI, ln_sI, ln_sR]
  have A : Bx h h2 := by
    rw [← hh2]
    exact ((hxt.1.R (Or.inr (Or.inr (Or.inl r13)))).I (Or.inr (Or.inr (Or.inr (Or.inl hk5))))).I (Or.inr (Or.inr (Or.inr (Or.inr (Or.inr (Or.inr ⟨hk6, rfl⟩))))))
  have hl2 : LDp mo h2 := by rw [← hh2]; exact LDp.I (LDp.I (LDp.R hldn))
  clear hh2
  have hI : ∀ a j, t_kd h a ≠ 0 → ¬ (a = s ∧ j = 2) → ¬ (a = nd pr ∧ j = 7) → t_I h2 a j = t_I h a j := fun a j b0 b1 b2 => by rw [hIn a j b1 b2, (hxt.2 a b0).1]
  have hR : ∀ a j, t_kd h a ≠ 0 → ¬ (a = s + 1 ∧ j = N) → t_R h2 a j = t_R h a j := fun a j b0 b1 => by rw [hRn a j b1, (hxt.2 a b0).2]
  have hc0 : ((List.range (N + 1)).countP fun j => decide (m_I S2 28 j = nI N)) = 0 := by
    rw [List.countP_eq_zero]
    intro j hj
    have hj2 := List.mem_range.mp hj
    by_cases q : j = N
    · subst q; rw [e28]; simp; exact fun z => by have := (nI_eq (by omega) (by omega)).mp z; omega
    · have e9 := eN 28 j q
      obtain ⟨-, -, -, -, -, -, rt, g9, -, -, -, -, -, -, -, -, -, d⟩ := H.nm (show j < N by omega)
      rcases d with ⟨-, d, -⟩ | ⟨pr, d1, d2, -⟩
      · rw [e9, d]; simp; exact fun z => nI_nm1 (by omega) z.symm
      · rw [e9, d2]; simp
        exact fun z => by have := (nI_eq (by omega) (by omega)).mp z; omega
  refine ⟨H.node hN (z := z) A hz0 (fun a j b0 b1 b2 => hI a j b0 b1 (fun e => b2 ⟨by rw [e.1]; exact hk6, e.2⟩)) hR hIs hRs (fun i hi => ?_) hl2 (fun k b1 b2 => ei k b1) e36 eI eN eJ eJN ?_ (fun i hi b1 b2 b3 => hno i hi ⟨b2.trans e28, b3.trans e30⟩), fun a b0 b1 => funext fun j => hR a j b0 (fun e => b1 e.1), A, (hkd z).trans k6, (hIn z 0 (fun e => zs e.1) (fun e => zp e.1)).trans i0⟩
  · rw [e28]
    by_cases q : i = pr
    · subst q; rw [if_pos rfl]; exact hIp
    · have m6 := (H.nm hi).1
      rw [if_neg (fun z => by have := (nI_eq (by omega) (by omega)).mp z; omega)]
      exact hI _ _ (by omega) (fun z => by rw [z.1] at m6; omega) (fun z => q (H.2.2.2.2.1.2.2.2.2.1 i pr hi hp z.1))
  · have hn2 : NM h2 S2 G (N + 1) (upN nd N z) gl (upN nl N (x :: nl pr)) N := by
      unfold NM
      rw [upN_at, upN_at, e28, e29, e30, e33, e34, e35, hc0, hIn z 0 (fun e => zs e.1) (fun e => zp e.1), hIn z 4 (fun e => zs e.1) (fun e => zp e.1), hIn z 7 (fun e => zs e.1) (fun e => zp e.1), hIn z 1 (fun e => zs e.1) (fun e => zp e.1), hIn z 2 (fun e => zs e.1) (fun e => zp e.1), hRn z 6 (fun e => zs1 e.1), hRn z 5 (fun e => zs1 e.1), hRn z 3 (fun e => zs1 e.1), i0, i1, i2, i4, i7, r3, r5, r6]
      refine ⟨(hkd z).trans k6, rfl, rfl, rfl, ⟨rfl, (hkd _).trans k9, (hln _).trans l4, fun k hk => ?_⟩, fun y hy => ?_, rt, g, by omega, rfl, rfl, gG, e31, rfl, ⟨q, rfl, ?_⟩, rfl, ?_, Or.inr ⟨pr, hp, rfl, ?_, ?_, hv, ?_⟩⟩
      · rw [hIn _ _ (fun e => z1s e.1) (fun e => z1p e.1), im, eI 36 (by omega)]
        exact (H.2.2.2.2.2.1.2.2.2 N k (Nat.le_refl _) hN hk).symm
      · rcases List.mem_cons.mp hy with rfl | hy
        · exact hx
        · exact hls y hy
      · rw [hbg2]; exact WH.bx A _ q hq
      · rw [hbg2, List.length_cons, Nat.add_sub_cancel]; exact hsd
      · rw [eN 29 pr (by omega)]; exact g29
      · rw [upN_ne (by omega)]
      · rw [upN_ne (by omega), eJN 34 pr (by omega), eJN 35 pr (by omega), eN 33 pr (by omega), ← hm]
    exact hn2
end CHILD2
/-! PURE 39: branch. -/
section BRANCH
variable {u mo : Nat} {h : TH} {S : MS} {t c s n G N P : Nat} {gm nd : Nat → Nat} {gl nl : Nat → List BW} {ol : List Nat} {kp : Nat → Bool}
/-- the position with which a lesson begins, and what was there before -/
theorem root_was (H : Rel u mo h S t c s n G N P gm nd gl nl ol kp) (hP : P ≤ 4000) {j : Nat} (hj : j < N) (h28 : m_I S 28 j = -1) (bd : BW) : ∃ L', fX9_position S (nI (gOf S j)) (m_I S 32 j) = some (nI L') ∧ fX9_wasThere S (nI L') bd.1 bd.2 = some (decide (bd ∈ nl j)) := by
  have h60 := H.N60
  have h16 := H.G16
  obtain ⟨rt, -, -, -, gG, -, -, -, r34, -, d⟩ := H.node_g hj
  rcases d with ⟨-, -, -, -, h32, pre, e⟩ | ⟨pr, hp, e, -⟩
  · obtain ⟨q, L, b, l, e0, a1, a2, a3, a4, a5, a6⟩ := H.pos gG
    have hlen := H.2.2.2.2.2.1.2.1 _ gG
    rw [e0] at hlen
    rw [e0] at e
    have el := congrArg List.length e
    rw [List.length_append] at el
    simp only [List.length_cons] at hlen el
    have hne : (nl j).length ≠ 0 := fun z => by
      rw [List.length_eq_zero_iff] at z
      rw [z] at r34; cases r34
    obtain ⟨pre2, y, l', q', L', p1, p2, p3, p4, p5, p6⟩ := back_ok (t0 := q) (fu := FU) (m := (nl j).length - 1) (show P ≤ 4096 by omega) l b q L a2 a4 (by omega) (by omega) (by unfold FU; omega)
    have e2 : nl j = y :: l' := (List.append_inj' (e.symm.trans p1) (by rw [List.length_cons]; omega)).2
    refine ⟨L', ?_, ?_⟩
    · unfold fX9_position
      rw [if_pos (xin_nI (show gOf S j < 16 by omega) (by omega)), clp (show gOf S j < 2 ^ 31 by omega), a3, a6, h32]
      exact p5
    · rw [e2]
      exact wasThere_X9' (by omega) p6 (by rw [List.length_cons]; omega)
  · rw [h28] at e
    exact absurd e.symm (nI_nm1 (by omega))
theorem canB_66 (H : Rel u mo h S t c s n G N P gm nd gl nl ol kp) (hP : P ≤ 4000) {i : Nat} (hi : i < N) : ∀ (j fu : Nat) (b : Bool), j < N → m_I S 29 j = m_I S 29 i → j + 1 < fu → fX9_canBranch_66 fu S (nI i) (bi b) (nI j) = some (decide (m_i S 28 = 0) && !(b || decide ((m_j S 25, m_j S 26) ∈ nl j)), S) := by
  have h60 := H.N60
  have h16 := H.G16
  intro j
  induction j using Nat.strongRecOn with
  | ind j ih =>
    intro fu b hj hr hf
    obtain ⟨fu, rfl⟩ : ∃ k, fu = k + 1 := ⟨fu - 1, by omega⟩
    obtain ⟨rt, hrt, r29, -, gG, r31, -, -, r34, -, d⟩ := H.node_g hj
    have x60 : xin (nI j) 60 = true := xin_nI (by omega) (by omega)
    have cj := clp (k := j) (show j < 2 ^ 31 by omega)
    have hw : ∀ b2 : Bool, b2 = (b || decide ((m_j S 25, m_j S 26) = (m_J S 34 j, m_J S 35 j))) → fX9_canBranch_112 (fX9_canBranch_66 fu) S (nI i) (nI j) (bi b2) = some (decide (m_i S 28 = 0) && !(b || decide ((m_j S 25, m_j S 26) ∈ nl j)), S) := by
      intro b2 hb2
      unfold fX9_canBranch_112
      rw [if_pos x60, cj]
      rcases d with ⟨d1, d2, -, -, -, -⟩ | ⟨pr, hp, d2, d3, -, -, e⟩
      · rw [d2]
        obtain ⟨fu, rfl⟩ : ∃ k, fu = k + 1 := ⟨fu - 1, by omega⟩
        obtain ⟨L', w1, w2⟩ := root_was H hP hj d2 (m_j S 25, m_j S 26)
        have hmem : (b || decide ((m_j S 25, m_j S 26) ∈ nl j)) = (b2 || decide ((m_j S 25, m_j S 26) ∈ nl j)) := by
          rw [hb2, Bool.or_assoc]
          congr 1
          by_cases q : (m_j S 25, m_j S 26) = (m_J S 34 j, m_J S 35 j)
          · have : (m_j S 25, m_j S 26) ∈ nl j := by
              rw [q]
              cases hl : nl j with
              | nil => rw [hl] at r34; cases r34
              | cons x l => rw [hl] at r34; rw [← Option.some.inj r34]; exact List.mem_cons_self
            rw [decide_eq_true this, Bool.or_true]
          · rw [decide_eq_false q, Bool.false_or]
        rw [hmem, fX9_canBranch_66, if_pos rfl, if_pos (xin_nI (show i < 60 by omega) (by omega))]
        by_cases s28 : m_i S 28 = 0
        · rw [if_pos s28, decide_eq_true s28, Bool.true_and]
          cases b2 with
          | true => rw [if_neg bi1]; rfl
          | false =>
            rw [if_pos bi0, clp (show i < 2 ^ 31 by omega), ← hr, r29, if_pos (xin_nI (show rt < 60 by omega) (by omega)), clp (show rt < 2 ^ 31 by omega), r31]
            subst d1
            rw [w1, Option.bind_some, w2, Option.bind_some, Bool.false_or]
            by_cases q : (m_j S 25, m_j S 26) ∈ nl rt
            · rw [decide_eq_true q, if_neg (by decide)]; rfl
            · rw [decide_eq_false q, if_pos rfl]; rfl
        · rw [if_neg s28, decide_eq_false s28, Bool.false_and]
      · have hx : nl j = (m_J S 34 j, m_J S 35 j) :: nl pr := by
          rw [e] at r34 ⊢
          rw [Option.some.inj r34]
        have mc : decide ((m_j S 25, m_j S 26) ∈ (m_J S 34 j, m_J S 35 j) :: nl pr) = (decide ((m_j S 25, m_j S 26) = (m_J S 34 j, m_J S 35 j)) || decide ((m_j S 25, m_j S 26) ∈ nl pr)) := by
          rw [← Bool.decide_or]; congr 1; exact propext List.mem_cons
        rw [d2, ih pr hp fu b2 (by omega) (d3.trans (r29.symm.trans hr)) (by omega), hx, mc, hb2, Bool.or_assoc]
    rw [fX9_canBranch_66, if_neg (nI_nm1 (by omega))]
    cases b with
    | true => rw [if_neg bi1]; exact hw true rfl
    | false =>
      rw [if_pos bi0, if_pos x60, cj]
      by_cases e1 : m_J S 34 j = m_j S 25
      · rw [if_pos e1]
        by_cases e2 : m_J S 35 j = m_j S 26
        · rw [if_pos e2]; exact hw true (by rw [e1, e2]; simp)
        · rw [if_neg e2]; exact hw false (by rw [decide_eq_false (fun z => e2 (congrArg Prod.snd z).symm)]; rfl)
      · rw [if_neg e1]; exact hw false (by rw [decide_eq_false (fun z => e1 (congrArg Prod.fst z).symm)]; rfl)
theorem canBranch_X9 (H : Rel u mo h S t c s n G N P gm nd gl nl ol kp) (hP : P ≤ 4000) {i p : Nat} (hi : i < N) (hp : p < 49) {x : BW} {l : List BW} (e : nl i = x :: l) :
    (okM x (m_I S 33 i) p (nl i) → fX9_canBranch S (nI i) (nI p) = some (true, putS S x.1 x.2 (m_I S 33 i) p)) ∧
    (¬ okM x (m_I S 33 i) p (nl i) → ∃ S2, fX9_canBranch S (nI i) (nI p) = some (false, S2) ∧ ∀ n, Sq n S S2) := by
  have h60 := H.N60
  have hx : OKB x := H.okb hi x (by rw [e]; exact List.mem_cons_self)
  obtain ⟨rt, hrt, r29, -, gG, r31, -, -, r34, -, -⟩ := H.node_g hi
  rw [e] at r34
  have hb : m_J S 34 i = x.1 := (congrArg Prod.fst (Option.some.inj r34)).symm
  have hw : m_J S 35 i = x.2 := (congrArg Prod.snd (Option.some.inj r34)).symm
  have hput := putS_new (S := S) (x := x) (c := m_I S 33 i) hp
  have h66 := canB_66 (H.sq (Sq.put (n := n) (b := x.1) (w := x.2) (c := m_I S 33 i) (p := p))) hP hi i FU false hi rfl (by unfold FU; omega)
  rw [hput.1, hput.2.1] at h66
  have h66' : fX9_canBranch_66 FU (putS S x.1 x.2 (m_I S 33 i) p) (nI i) (0 : Int32) (nI i) = some (decide (bi (sui (putO x.1 x.2 (m_I S 33 i) p) (othOf x.1 x.2 (m_I S 33 i)) p) = 0) && !(false || decide (mvB x (m_I S 33 i) (nI p) ∈ nl i)), putS S x.1 x.2 (m_I S 33 i) p) := h66
  have e0 : fX9_canBranch S (nI i) (nI p) = (if decide (bt x.1 p = false ∧ bt x.2 p = false) = false then some (false, S) else some (decide (bi (sui (putO x.1 x.2 (m_I S 33 i) p) (othOf x.1 x.2 (m_I S 33 i)) p) = 0) && !(false || decide (mvB x (m_I S 33 i) (nI p) ∈ nl i)), putS S x.1 x.2 (m_I S 33 i) p)) := by
    unfold fX9_canBranch
    rw [if_pos (xin_nI (show i < 60 by omega) (by omega)), if_neg (nI_nm1 (by omega)), clp (show i < 2 ^ 31 by omega), hb, hw, isEmpty_X9 (by omega), Option.bind_some, puts_X9 S _ hx.1 hx.2.1 hp, Option.bind_some, h66']
  rw [e0]
  constructor
  · rintro ⟨a1, a2, a3, a4⟩
    rw [decide_eq_true ⟨a1, a2⟩, if_neg (by decide), a3, decide_eq_false a4]
    rfl
  · intro hn
    by_cases he : bt x.1 p = false ∧ bt x.2 p = false
    · rw [decide_eq_true he, if_neg (by decide)]
      refine ⟨putS S x.1 x.2 (m_I S 33 i) p, ?_, fun n => Sq.put⟩
      cases hs : sui (putO x.1 x.2 (m_I S 33 i) p) (othOf x.1 x.2 (m_I S 33 i)) p
      · have hm : mvB x (m_I S 33 i) (nI p) ∈ nl i := Classical.byContradiction fun hm => hn ⟨he.1, he.2, hs, hm⟩
        rw [decide_eq_true hm, Bool.false_or, Bool.not_true, Bool.and_false]
      · rw [decide_eq_false bi1, Bool.false_and]
    · rw [decide_eq_false he, if_pos rfl]
      exact ⟨_, rfl, fun n => Sq.rf⟩
/-- a child more, behind a new position -/
theorem brFin {K : Nat} (H : Rel 16 mo h S t c s n G N P gm nd gl nl ol kp) (hP : P ≤ K) {i qn : Nat} (hi : i < N) {v : Int32} (hv : v = -1 ∨ IV v 49) {hn : TH} {y : BW} {S1 : MS} (hxt : Xt h hn) (hld : LDp mo hn) (hW : WH hn (bg S (gOf S i)) qn (y :: nl i)) (hy : y = mvB (m_J S 34 i, m_J S 35 i) (m_I S 33 i) v) (hok : OKB y)
    (hs : ∀ n, Sq n S S1) (h47 : m_i S1 47 = 0) (h25 : m_j S1 25 = y.1) (h26 : m_j S1 26 = y.2) (hno : ∀ k, k < N → ¬ (m_I S 28 k = nI i ∧ m_I S 30 k = v)) (hN : N < 60) :
    ∃ h2 S2, RR mo t (K + 1) h2 S2 ∧ fX6_childOrNew_39 hn s (some (nd i)) v (some qn) = some (nI N, h2) ∧ fX9_makes S1 (nI i) v (m_j S1 25) (m_j S1 26) ((1 : Int32) - m_I S1 33 i) = some (nI N, S2) ∧ m_i S2 47 = 0 := by
  have Hn := (H.xt hxt hld).sq (hs n)
  have h0 := hs n
  have eg : gOf S1 i = gOf S i := by unfold gOf; rw [h0.I' 31 (by omega), h0.I' 29 (by omega)]
  obtain ⟨rt, hrt, r29, -, gG, r31, -, -, r34, r33, -⟩ := H.node_g hi
  have hne : (nl i).length ≠ 0 := fun z => by
    rw [List.length_eq_zero_iff] at z
    rw [z] at r34; cases r34
  obtain ⟨h2, g1, g2, g3, -, -, g4, g5⟩ := grow_ok Hn hN (pr := i) (q := qn) (v := v) (sd := (1 : Int32) - m_I S1 33 i) (x := y) hi hok hv (by rw [h0.J' 34 (by omega), h0.J' 35 (by omega), h0.I' 33 (by omega)]; exact hy) (by rw [eg, bg_sq h0]; exact hW) (by rw [eg, bg_sq h0, h0.I' 33 (by omega), r33, col_flip, show bg S (gOf S i) + ((nl i).length - 1) + 1 = bg S (gOf S i) + (nl i).length by omega]) (by rw [h0.I' 28 (by omega), h0.I' 30 (by omega)]; exact hno)
  refine ⟨h2, _, ⟨c, s, n, G, N + 1, P, gm, _, gl, _, ol, kp, by omega, g3⟩, ?_, by rw [h25, h26]; exact g2, ?_⟩
  · unfold fX6_childOrNew_39
    rw [if_pos Hn.1.2.2.2.2.1, g1, Option.bind_some]
    unfold fX6_childOrNew_43
    dsimp only
    rw [if_neg (by simp), Option.bind_some, if_pos g4, g5]
  · rw [mkS_i, if_neg (by omega)]; exact h47
theorem brFull (H : Rel 16 mo h S t c s n G N P gm nd gl nl ol kp) {i qn : Nat} {v : Int32} (hN : ¬ N < 60) : fX6_childOrNew_39 h s (some (nd i)) v (some qn) = some (-1, h) := by
  have hk5 : t_kd h s = 5 := H.1.2.2.2.2.1
  unfold fX6_childOrNew_39 fX6_grow
  rw [if_pos hk5, if_neg (by simp), if_pos hk5, isFull_X6 H, Option.bind_some, decide_eq_false hN, if_neg (by decide), Option.bind_some]
  rfl
theorem brNone (H : Rel 16 mo h S t c s n G N P gm nd gl nl ol kp) {i : Nat} {v : Int32} : fX6_childOrNew_39 h s (some (nd i)) v none = some (-1, h) := by
  have hk5 : t_kd h s = 5 := H.1.2.2.2.2.1
  unfold fX6_childOrNew_39 fX6_grow
  rw [if_pos hk5, if_pos rfl, Option.bind_some]
  rfl
theorem branch_in {K : Nat} (hK : K ≤ 4000) (H0 : RR mo t K h S) (H : Rel 16 mo h S t c s n G N P gm nd gl nl ol kp) (hP : P ≤ K) {i : Nat} (hi : i < N) (v : Int32) (hv : v = -1 ∨ IV v 49) : Agr mo t K [eI, eS] (fX8_branch_15 h t v (some (nd i))) (fX9_branch_25 S (nI i) v 1) := by
  have h60 := H.N60
  have h16 := H.G16
  have hk5 : t_kd h s = 5 := H.1.2.2.2.2.1
  have h36 : m_i S 36 = nI N := H.2.2.2.2.1.2.2.1
  have hz0 : t_kd h (t_sz h) = 0 := H.2.2.2.2.2.2.z
  have n10' : ¬ (1 : Int32) = 0 := by decide
  have e60 : nI N = (60 : Int32) ↔ ¬ N < 60 := by
    constructor
    · intro z
      have := (nI_eq (by omega) (by omega)).mp (z.trans (show (60 : Int32) = nI 60 by decide))
      omega
    · intro z
      rw [show N = 60 by omega]; rfl
  unfold fX8_branch_15 fX9_branch_25
  rw [if_pos H.1.1, H.1.2.2.1, Option.bind_some, if_pos hk5, if_neg n10']
  unfold fX6_childOrNew
  rw [if_pos hk5]
  rcases child_ok H hi v with ⟨k, hk, k28, k30, c1, c2⟩ | ⟨hno, c1, c2⟩
  · rw [c1, c2, Option.bind_some, Option.bind_some, if_neg (by simp)]
    unfold fX6_childOrNew_43 fX9_branch_40
    rw [if_neg (by simp), Option.bind_some, if_pos (H.nm hk).1, (H.nm hk).2.1, Option.bind_some, Option.bind_some, if_neg n10', if_neg (nI_nm1 (by omega))]
    dsimp only
    rw [if_pos (nI_pos' (by omega))]
    unfold fX9_branch_80
    rw [fails_0, Option.bind_some]
    dsimp only
    rw [if_pos rfl, if_neg (nI_nm1 (by omega))]
    exact Agr.same H0 (fun n => Sq.f) (v := nI k) (S2 := ms_i S 47 0) rfl rfl i47
  · rw [c1, c2, Option.bind_some, Option.bind_some, if_pos rfl, Option.bind_some, if_pos (H.nm hi).1]
    obtain ⟨rt, hrt, r29, -, gG, r31, -, ⟨q, q5, qW⟩, r34, r33, -⟩ := H.node_g hi
    obtain ⟨x, l, hl⟩ : ∃ x l, nl i = x :: l := by
      cases hl : nl i with
      | nil => rw [hl] at r34; cases r34
      | cons x l => exact ⟨x, l, rfl⟩
    have hlen := nl_len H i hi
    have hx : OKB x := H.okb hi x (by rw [hl]; exact List.mem_cons_self)
    rw [hl] at r34 r33 qW hlen
    rw [List.length_cons, Nat.add_sub_cancel] at r33
    rw [List.length_cons] at hlen
    have hxx : (m_J S 34 i, m_J S 35 i) = x := (Option.some.inj r34).symm
    have h34 : m_J S 34 i = x.1 := congrArg Prod.fst hxx
    have h35 : m_J S 35 i = x.2 := congrArg Prod.snd hxx
    have h80 : ∀ Sx, fX9_branch_80 Sx (nI i) v (-1) 2 = some (0, ms_i Sx 47 2) := fun Sx => by
      unfold fX9_branch_80
      rw [fails_2]; rfl
    have g80 : ∀ Sx S2, fX9_makes (ms_i Sx 47 0) (nI i) v (m_j (ms_i Sx 47 0) 25) (m_j (ms_i Sx 47 0) 26) ((1 : Int32) - m_I (ms_i Sx 47 0) 33 i) = some (nI N, S2) → fX9_branch_80 Sx (nI i) v (-1) 0 = some (nI N, S2) := fun Sx S2 hm => by
      unfold fX9_branch_80
      rw [fails_0, Option.bind_some]
      dsimp only
      rw [if_pos rfl, if_pos rfl, if_pos (xin_nI (show i < 60 by omega) (by omega)), clp (show i < 2 ^ 31 by omega), hm, Option.bind_some]
    have err : ∀ (hn : TH) (Sx : MS) (r8 : Option ((Int32 × TH) ⊕ (String × TH))) (r9 : Option (Int32 × MS)), Xt h hn → LDp mo hn → (∀ n, Sq n S Sx) → r8 = some (.inr (eS, hn)) → r9 = some (0, ms_i Sx 47 2) → Agr mo t K [eI, eS] r8 r9 := fun hn Sx r8 r9 hxt hld hs h8 h9 =>
      ⟨hn, ms_i Sx 47 2, ⟨c, s, n, G, N, P, gm, nd, gl, nl, ol, kp, by omega, (H.xt hxt hld).sq ((hs n).tr Sq.f)⟩, Or.inr ⟨1, eS, 0, rfl, by omega, h8, h9, i47⟩⟩
    unfold fX9_branch_40
    rw [if_neg n10', if_pos rfl, h36]
    rcases hv with rfl | ⟨p, hp, rfl⟩
    · rw [if_pos rfl, q5, Option.bind_some, if_pos qW.1, withPassing_X4 qW hz0, Option.bind_some]
      dsimp only
      have hxt := nP_xt (h := h) (q := q) (x := x) (c := nI ((bg S (gOf S i) + (l.length + 1)) % 2)) (ps := t_I h q 4 + 1) hz0
      have hldn := nP_ld (q := q) (x := x) (c := nI ((bg S (gOf S i) + (l.length + 1)) % 2)) (ps := t_I h q 4 + 1) H.2.2.2.2.2.2
      have hWn := nP_WH (x := x) (c := nI ((bg S (gOf S i) + (l.length + 1)) % 2)) (ps := t_I h q 4 + 1) qW hz0 rfl
      generalize nP h q x (nI ((bg S (gOf S i) + (l.length + 1)) % 2)) (t_I h q 4 + 1) = hn at hxt hldn hWn ⊢
      by_cases hN : N < 60
      · have hcan : fX9_canBranch S (nI i) (-1) = some (true, ms_j (ms_j S 25 x.1) 26 x.2) := by
          unfold fX9_canBranch
          rw [if_pos (xin_nI (show i < 60 by omega) (by omega)), if_pos rfl, clp (show i < 2 ^ 31 by omega), h34, h35, Option.bind_some]
        obtain ⟨h2, S2, f1, f2, f3, f4⟩ := brFin (K := K) H hP hi (Or.inl rfl) (S1 := ms_i (ms_j (ms_j S 25 x.1) 26 x.2) 47 0) (y := x) hxt hldn (by rw [hl]; exact hWn) (by rw [hxx]; unfold mvB; rw [if_pos rfl]) hx (fun n => (Sq.j.tr Sq.j).tr Sq.f) i47 (by rw [mj_i, mj_j, if_neg (by omega), mj_j, if_pos rfl]) (by rw [mj_i, mj_j, if_pos rfl]) hno hN
        rw [if_neg (fun z => e60.mp z hN), hcan, Option.bind_some, f2, Option.bind_some]
        dsimp only
        rw [if_neg tf, g80 _ S2 f3, if_pos (nI_pos' (by omega))]
        exact ⟨h2, S2, f1, Or.inl ⟨nI N, rfl, rfl, f4⟩⟩
      · rw [if_pos (e60.mpr hN), h80, brFull (H.xt hxt hldn) hN, Option.bind_some]
        dsimp only
        rw [if_neg (by decide)]
        exact err hn S _ _ hxt hldn (fun n => Sq.rf) rfl rfl
    · rw [if_neg (nI_nm1 (by omega)), q5, Option.bind_some, if_pos qW.1]
      obtain ⟨o1, o2⟩ := withStone_X4 qW hx hp hz0 (by omega)
      obtain ⟨r1, r2⟩ := canBranch_X9 H (by omega) hi hp hl
      rw [hl, r33] at r1 r2
      by_cases hok : okM x (nI ((bg S (gOf S i) + l.length) % 2)) p (x :: l)
      · rw [o1 hok, Option.bind_some]
        dsimp only
        have hxt := nP_xt (h := h) (q := q) (x := mvB x (nI ((bg S (gOf S i) + l.length) % 2)) (nI p)) (c := nI ((bg S (gOf S i) + (l.length + 1)) % 2)) (ps := 0) hz0
        have hldn := nP_ld (q := q) (x := mvB x (nI ((bg S (gOf S i) + l.length) % 2)) (nI p)) (c := nI ((bg S (gOf S i) + (l.length + 1)) % 2)) (ps := 0) H.2.2.2.2.2.2
        have hWn := nP_WH (x := mvB x (nI ((bg S (gOf S i) + l.length) % 2)) (nI p)) (c := nI ((bg S (gOf S i) + (l.length + 1)) % 2)) (ps := 0) qW hz0 rfl
        generalize nP h q (mvB x (nI ((bg S (gOf S i) + l.length) % 2)) (nI p)) (nI ((bg S (gOf S i) + (l.length + 1)) % 2)) 0 = hn at hxt hldn hWn ⊢
        by_cases hN : N < 60
        · have hput := putS_new (S := S) (x := x) (c := nI ((bg S (gOf S i) + l.length) % 2)) hp
          obtain ⟨h2, S2, f1, f2, f3, f4⟩ := brFin (K := K) H hP hi (Or.inr ⟨p, hp, rfl⟩) (S1 := ms_i (putS S x.1 x.2 (nI ((bg S (gOf S i) + l.length) % 2)) p) 47 0) (y := mvB x (nI ((bg S (gOf S i) + l.length) % 2)) (nI p)) hxt hldn (by rw [hl]; exact hWn) (by rw [hxx, r33]) (hx.mv hp hok.1 hok.2.1) (fun n => Sq.put.tr Sq.f) i47 (by rw [mj_i]; exact congrArg Prod.fst hput.1) (by rw [mj_i]; exact congrArg Prod.snd hput.1) hno hN
          rw [if_neg (fun z => e60.mp z hN), r1 hok, Option.bind_some, f2, Option.bind_some]
          dsimp only
          rw [if_neg tf, g80 _ S2 f3, if_pos (nI_pos' (by omega))]
          exact ⟨h2, S2, f1, Or.inl ⟨nI N, rfl, rfl, f4⟩⟩
        · rw [if_pos (e60.mpr hN), h80, brFull (H.xt hxt hldn) hN, Option.bind_some]
          dsimp only
          rw [if_neg (by decide)]
          exact err hn S _ _ hxt hldn (fun n => Sq.rf) rfl rfl
      · rw [o2 hok, Option.bind_some]
        dsimp only
        rw [brNone H, Option.bind_some]
        dsimp only
        rw [if_neg (by decide)]
        by_cases hN : N < 60
        · obtain ⟨S2, k1, k2⟩ := r2 hok
          rw [if_neg (fun z => e60.mp z hN), k1, Option.bind_some]
          dsimp only
          rw [if_pos rfl, h80]
          exact err h S2 _ _ Xt.rf H.2.2.2.2.2.2 k2 rfl rfl
        · rw [if_pos (e60.mpr hN), h80]
          exact err h S _ _ Xt.rf H.2.2.2.2.2.2 (fun n => Sq.rf) rfl rfl
/-- branch -/
theorem call_branch {K : Nat} (hK : K ≤ 4000) (H0 : RR mo t K h S) (x y : Int32) : Agr mo t K [eI, eS] (fX8_branch h t x y) (fX9_branch S x y) := by
  obtain ⟨c, s, n, G, N, P, gm, nd, gl, nl, ol, kp, hP, H⟩ := id H0
  have h60 := H.N60
  unfold fX8_branch fX9_branch
  rw [if_pos H.1.1, isNode_X9 H, Option.bind_some]
  have err : ∀ r8, r8 = some (.inr (eI, h)) → Agr (α := Int32) mo t K [eI, eS] r8 (fX9_branch_25 S x y 0) :=
    fun r8 h8 => Agr.err H0 (fun n => Sq.f) (j := 0) (E := eI) (b := 0) (S2 := ms_i S 47 1) rfl (by omega) h8 (by unfold fX9_branch_25; rw [if_pos rfl]; unfold fX9_branch_40; rw [if_pos rfl]; unfold fX9_branch_80; rw [fails_1]; rfl) i47
  rcases twigOf_X8 H x with ⟨i, hi, rfl, e⟩ | ⟨e1, e⟩
  · rw [isN_nI hi (by omega), if_neg tf, e, Option.bind_some, xcs_1]
    dsimp only
    by_cases hy : y = -1
    · rw [if_pos hy, if_pos hy]
      exact branch_in hK H0 H hP hi y (Or.inl hy)
    · rw [if_neg hy, if_neg hy, isPoint_X9, Option.bind_some, point_X8, Option.bind_some]
      rcases isN_cases (x := y) (n := 49) (by omega) with h1 | ⟨p, hp, rfl⟩
      · rw [h1, if_pos rfl, if_neg ff, xcs_2]
        exact err _ rfl
      · rw [isN_nI hp (by omega), if_neg tf, if_pos rfl, xcs_1]
        exact branch_in hK H0 H hP hi (nI p) (Or.inr ⟨p, hp, rfl⟩)
  · rw [e1, if_pos rfl, e, Option.bind_some, xcs_2]
    exact err _ rfl
end BRANCH
