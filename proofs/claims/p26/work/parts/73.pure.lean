/-! PURE 28: one node more. -/
section GROW
variable {u mo : Nat} {h : TH} {S : MS} {t c s n G N P : Nat} {gm nd : Nat → Nat} {gl nl : Nat → List BW} {ol : List Nat} {kp : Nat → Bool}
/-- a row with a new value at N -/
def upN {α : Type} (f : Nat → α) (N : Nat) (v : α) : Nat → α := fun i => if i = N then v else f i
theorem upN_at {α : Type} {f : Nat → α} {N : Nat} {v : α} : upN f N v N = v := if_pos rfl
theorem upN_ne {α : Type} {f : Nat → α} {N i : Nat} {v : α} (h : i ≠ N) : upN f N v i = f i := if_neg h
theorem cnt28 {S S2 : MS} {N i : Nat} (e28 : ∀ j, j ≠ N → m_I S2 28 j = m_I S 28 j) : ((List.range (N + 1)).countP fun j => decide (m_I S2 28 j = nI i)) = ((List.range N).countP fun j => decide (m_I S 28 j = nI i)) + (if m_I S2 28 N = nI i then 1 else 0) := by
  rw [List.range_succ, List.countP_append]
  congr 1
  · apply List.countP_congr
    intro j hj
    have : j < N := List.mem_range.mp hj
    rw [e28 j (by omega)]
  · by_cases e : m_I S2 28 N = nI i
    · simp [e]
    · simp [e]
/-- the relation with one node more -/
theorem Rel.node (H : Rel u mo h S t c s n G N P gm nd gl nl ol kp) (hN : N < 60) {h2 : TH} {S2 : MS} {z : Nat} {l : List BW} (A : Bx h h2) (hz0 : t_kd h z = 0)
    (hI : ∀ a j, t_kd h a ≠ 0 → ¬ (a = s ∧ j = 2) → ¬ (t_kd h a = 6 ∧ j = 7) → t_I h2 a j = t_I h a j) (hR : ∀ a j, t_kd h a ≠ 0 → ¬ (a = s + 1 ∧ j = N) → t_R h2 a j = t_R h a j)
    (hs2 : t_I h2 s 2 = nI (N + 1)) (hsN : t_R h2 (s + 1) N = some z) (h7 : ∀ i, i < N → t_I h2 (nd i) 7 = if m_I S2 28 N = nI i then t_I h (nd i) 7 + 1 else t_I h (nd i) 7) (hld : LDp mo h2)
    (ei : ∀ k, k ≠ 36 → k ≠ 47 → m_i S2 k = m_i S k) (e36 : m_i S2 36 = nI (N + 1)) (eI : ∀ a, a < 28 ∨ 33 < a → m_I S2 a = m_I S a) (eN : ∀ a j, j ≠ N → m_I S2 a j = m_I S a j)
    (eJ : ∀ a, a ≠ 34 → a ≠ 35 → m_J S2 a = m_J S a) (eJN : ∀ a j, j ≠ N → m_J S2 a j = m_J S a j)
    (hnew : NM h2 S2 G (N + 1) (upN nd N z) gl (upN nl N l) N) (huq : ∀ i, i < N → m_I S2 28 N ≠ -1 → m_I S 28 i = m_I S2 28 N → m_I S 30 i = m_I S2 30 N → False) :
    Rel u mo h2 S2 t c s n G (N + 1) P gm (upN nd N z) gl (upN nl N l) ol kp := by
  have Gq1 : ∀ l, Gq S S2 l := fun l x _ => by rw [eI 9 (by omega), eI 5 (by omega), eI 6 (by omega), eI 8 (by omega)]; exact ⟨rfl, rfl, rfl, rfl⟩
  obtain ⟨h0, h1, ⟨a1, a2, a3, a4, a5, a6⟩, h3, h4, h5, h6⟩ := H
  have hkc : t_kd h c = 2 := h0.2.2.2.1.1
  have hk5 : t_kd h s = 5 := h0.2.2.2.2.1
  have hk13 : t_kd h (s + 1) = 13 := h0.2.2.2.2.2.1.2.1
  have hI9 : ∀ a j, t_kd h a ≠ 0 → t_kd h a ≠ 5 → t_kd h a ≠ 6 → t_I h2 a j = t_I h a j := fun a j b1 b2 b3 => hI a j b1 (fun z => by rw [z.1] at b2; exact b2 hk5) (fun z => b3 z.1)
  have hR9 : ∀ a j, t_kd h a ≠ 0 → t_kd h a ≠ 13 → t_R h2 a j = t_R h a j := fun a j b1 b2 => hR a j b1 (fun z => by rw [z.1] at b2; exact b2 hk13)
  refine ⟨h0.bx A, ?_, ⟨a1, by rw [hI9 c 3 (by omega) (by omega) (by omega)]; exact a2, by rw [ei 4 (by omega) (by omega)]; exact a3, fun i hi => ?_, a5, fun j hj => ?_⟩, ?_, ?_, ?_, hld⟩
  · have := h1.bx (h2 := h2) (hI9 c 1 (by omega) (by omega) (by omega)) (fun a _ => hI9 (c + 1) a (by have := h0.2.2.2.1.2.1.2.1; omega) (by have := h0.2.2.2.1.2.1.2.1; omega) (by have := h0.2.2.2.1.2.1.2.1; omega))
    unfold R1 at *
    rw [ei 0 (by omega) (by omega), eI 0 (by omega)]
    exact this
  · have := h0.2.2.2.1.2.2.1.2.1
    rw [hR9 (c + 2) i (by omega) (by omega)]; exact a4 i hi
  · obtain ⟨b1, b2⟩ := a6 j hj
    have k3 := b1.k3
    have k9 := b2.2.2.2.2.2.2.2.1
    have hp : PM u h2 S P (gm j) j (gl j) := b2.bx A k3 (hR9 _ _ (by omega) (by omega)) (fun k _ => hI9 _ _ (by omega) (by omega) (by omega))
    have hg : GM h2 S n (gm j) j := b1.bx A (hI9 _ _ (by omega) (by omega) (by omega)) (hI9 _ _ (by omega) (by omega) (by omega)) (fun k' j' hk2 _ => by
      have := (b1.2.2.2.2.2.2.2.2.2.2.2 k' hk2).1
      exact hI9 _ _ (by omega) (by omega) (by omega))
    exact ⟨hg.cg (fun a b1 b2 => by rw [eI a (by omega)]) (fun k _ => by rw [eI 14 (by omega), eI 15 (by omega)]; exact ⟨rfl, rfl⟩) (by rw [eI 16 (by omega)]), hp.cg (Nat.le_refl _) (fun a ha => by rw [eI a (by omega)]) (fun L _ => by rw [eJ 18 (by omega) (by omega), eJ 19 (by omega) (by omega), eI 20 (by omega)]; exact ⟨rfl, rfl, rfl⟩)⟩
  · have k12 := h0.2.2.2.1.2.2.2.2.1
    have := h3.bx A (fun i hi => (a6 i hi).1.k3) (hI9 c 5 (by omega) (by omega) (by omega)) (fun j => hR9 _ _ (by omega) (by omega))
    unfold R3 Ord Rky at *
    rw [ei 19 (by omega) (by omega), eI 17 (by omega), eI 8 (by omega), eI 9 (by omega), eI 10 (by omega), eI 1 (by omega), eI 2 (by omega)]
    obtain ⟨b1, b2, b3, b4, b5, b6, b7, b8, b9, b10, b11⟩ := this
    refine ⟨b1, b2, b3, b4, b5, b6, b7, b8, b9, b10, fun b hb => ?_⟩
    rw [stdF_q (Gq1 ol) (by rw [eI 0 (by omega)])]
    exact b11 b hb
  · obtain ⟨c1, c2, c3, c4, c5, c6, c7⟩ := h4
    have hzn : ∀ i, i < N → nd i ≠ z := fun i hi e => by
      have := (c7 i hi).1
      rw [e] at this; omega
    refine ⟨by omega, hs2, e36, fun i hi => ?_, fun i j hi hj e => ?_, fun i j hi hj b1 b2 b3 => ?_, fun i hi => ?_⟩
    · by_cases q : i = N
      · subst q; rw [hsN, if_pos (by omega), upN_at]
      · rw [hR _ _ (by omega) (fun z => q z.2), c4 i hi]
        by_cases q2 : i < N
        · rw [if_pos q2, if_pos (by omega), upN_ne q]
        · rw [if_neg q2, if_neg (by omega)]
    · by_cases q : i = N
      · by_cases q2 : j = N
        · omega
        · rw [q, upN_at, upN_ne q2] at e
          exact absurd e.symm (hzn j (by omega))
      · by_cases q2 : j = N
        · rw [q2, upN_at, upN_ne q] at e
          exact absurd e (hzn i (by omega))
        · rw [upN_ne q, upN_ne q2] at e
          exact c5 i j (by omega) (by omega) e
    · by_cases q : i = N
      · by_cases q2 : j = N
        · omega
        · subst q
          exfalso
          rw [eN 28 j q2] at b2
          rw [eN 30 j q2] at b3
          exact huq j (by omega) b1 b2.symm b3.symm
      · by_cases q2 : j = N
        · subst q2
          exfalso
          rw [eN 28 i q] at b1 b2
          rw [eN 30 i q] at b3
          exact huq i (by omega) (by rw [← b2]; exact b1) b2 b3
        · rw [eN 28 i q] at b1 b2
          rw [eN 28 j q2] at b2
          rw [eN 30 i q, eN 30 j q2] at b3
          exact c6 i j (by omega) (by omega) b1 b2 b3
    · by_cases q : i = N
      · subst q; exact hnew
      · have hiN : i < N := by omega
        obtain ⟨m1, m2, m3, m4, ⟨m5, m6, m7, m8⟩, m9, rt, g, d1, d2, d3, d4, d5, d6, ⟨q1, d7, d8⟩, d9, d10, d11⟩ := c7 i hiN
        have q6 : ∀ k', k' ≠ 7 → t_I h2 (nd i) k' = t_I h (nd i) k' := fun k' hk' => hI _ _ (by omega) (fun z => by rw [z.1] at m1; omega) (fun z => hk' z.2)
        have qR : ∀ k', t_R h2 (nd i) k' = t_R h (nd i) k' := fun k' => hR9 _ _ (by omega) (by omega)
        have eb : ∀ g, bg S2 g = bg S g := fun g => by unfold bg; rw [eI 7 (by omega)]
        unfold NM
        rw [upN_ne q, upN_ne q, eN 30 i q, eN 29 i q, eN 28 i q, eN 33 i q, eN 32 i q, eJN 34 i q, eJN 35 i q, q6 0 (by omega), q6 1 (by omega), q6 2 (by omega), q6 4 (by omega), qR, qR, qR, h7 i hiN, cnt28 (fun j hj => eN 28 j hj)]
        refine ⟨A.kd m1, m2, m3, ?_, ⟨m5, A.kd m6, A.ln m6 m7, fun k' hk' => ?_⟩, m9, rt, g, d1, d2, d3, d4, by rw [eN 31 rt (by omega)]; exact d5, d6, ⟨q1, d7, by rw [eb]; exact WH.bx A _ q1 d8⟩, d9, by rw [eb]; exact d10, ?_⟩
        · by_cases e : m_I S2 28 N = nI i
          · rw [if_pos e, if_pos e, m4, nI_1]
          · rw [if_neg e, if_neg e, m4]; rfl
        · rw [hI9 _ _ (by omega) (by omega) (by omega), eI 36 (by omega)]; exact m8 k' hk'
        · rcases d11 with d | ⟨pr, p1, p2, p3, p4, p5, p6⟩
          · exact Or.inl d
          · have hp : pr ≠ N := by omega
            refine Or.inr ⟨pr, p1, p2, by rw [eN 29 pr hp]; exact p3, by rw [upN_ne hp]; exact p4, p5, ?_⟩
            rw [upN_ne hp, eJN 34 pr hp, eJN 35 pr hp, eN 33 pr hp]; exact p6
  · refine ⟨by rw [ei 21 (by omega) (by omega)]; exact h5.1, h5.2.1, ⟨fun j b1 b2 => by rw [eI 8 (by omega), eI 9 (by omega), eI 12 (by omega), eI 13 (by omega)]; exact h5.2.2.1 j b1 b2, fun j k' b1 b2 b3 => by rw [eI 36 (by omega)]; exact h5.2.2.2 j k' (by omega) b2 b3⟩⟩
end GROW
/-! PURE 29: lesson. -/
/-- both go back to the same position -/
theorem back_ok {h : TH} {S : MS} {g P m t0 : Nat} (hP : P ≤ 4096) : ∀ (l : List BW) (x : BW) (q L fu : Nat), WH h g q (x :: l) → WM S P L (x :: l) → m ≤ l.length → l.length < 2 ^ 30 → l.length < fu →
    ∃ pre y l' q' L', x :: l = pre ++ y :: l' ∧ l'.length = m ∧ fX4_behind_2 fu h t0 (nI m) (some q) = some (some q') ∧ WH h g q' (y :: l') ∧ fX9_position_15 fu S (nI m) (nI L) (nI l.length) = some (nI L') ∧ WM S P L' (y :: l') := by
  intro l
  induction l with
  | nil =>
    intro x q L fu hq hL hm hb hf
    obtain ⟨fu, rfl⟩ : ∃ j, fu = j + 1 := ⟨fu - 1, by omega⟩
    have hm0 : m = 0 := by simp at hm; exact hm
    subst hm0
    refine ⟨[], x, [], q, L, rfl, rfl, ?_, hq, ?_, hL⟩
    · rw [fX4_behind_2, if_neg (by simp), Option.bind_some, if_pos hq.1, hq.2.2.2.2.1, if_pos (show nI ([] : List BW).length = nI 0 from rfl)]
    · rw [fX9_position_15, if_pos (show nI ([] : List BW).length ≤ nI 0 from nI_le (Nat.le_refl 0) (by omega))]
  | cons y l ih =>
    intro x q L fu hq hL hm hb hf
    simp only [List.length_cons] at hm hb hf
    obtain ⟨fu, rfl⟩ : ∃ j, fu = j + 1 := ⟨fu - 1, by omega⟩
    by_cases e : m = l.length + 1
    · refine ⟨[], x, y :: l, q, L, rfl, e.symm, ?_, hq, ?_, hL⟩
      · rw [fX4_behind_2, if_neg (by simp), Option.bind_some, if_pos hq.1, hq.2.2.2.2.1, if_pos (by rw [e]; rfl)]
      · rw [fX9_position_15, if_pos (by rw [e]; exact nI_le (Nat.le_refl _) (by omega))]
    · obtain ⟨q1, q2, q3⟩ := hq.2.2.2.2.2.2 (by simp)
      obtain ⟨L1, l2, l3⟩ := hL.2.2.2.2 (by simp)
      have hLP := hL.1
      obtain ⟨pre, z, l', q', L', r1, r2, r3, r4, r5, r6⟩ := ih y q1 L1 fu q3 l3 (by omega) (by omega) (by omega)
      refine ⟨x :: pre, z, l', q', L', by rw [r1]; rfl, r2, ?_, r4, ?_, r6⟩
      · have ne : ¬ nI (y :: l).length = nI m := fun z => by
          have := (nI_eq (by rw [List.length_cons]; omega) (by omega)).mp z
          rw [List.length_cons] at this; omega
        rw [fX4_behind_2, if_neg (by simp), Option.bind_some, if_pos hq.1, hq.2.2.2.2.1, if_neg ne, q2]
        exact r3
      · rw [fX9_position_15, List.length_cons, if_neg (nI_ge (by omega) (by omega)), if_pos (xin_nI (show L < 4096 by omega) (by omega)), clp (show L < 2 ^ 31 by omega), l2, pk_m1]
        exact r5
theorem position_c {S S2 : MS} (e : m_I S2 20 = m_I S 20) : ∀ (fu : Nat) (a b d : Int32), fX9_position_15 fu S2 a b d = fX9_position_15 fu S a b d := by
  intro fu
  induction fu with
  | zero => intro a b d; rfl
  | succ fu ih => intro a b d; rw [fX9_position_15, fX9_position_15, e, ih]
/-- a new node -/
def nT (h : TH) (i rt g : Int32) (par : Option Nat) (pt : Int32) (pos : Option Nat) : TH :=
  s_R (s_I (s_R (s_I (s_I (s_I (s_R (s_N (s_N h 6 0) 9 4) (t_sz h) 6 (some (t_sz h + 1))) (t_sz h) 0 i) (t_sz h) 1 rt) (t_sz h) 2 g) (t_sz h) 3 par) (t_sz h) 4 pt) (t_sz h) 5 pos
theorem nT_xt {h : TH} {i rt g pt : Int32} {par pos : Option Nat} (hf : t_kd h (t_sz h) = 0) (hf1 : t_kd h (t_sz h + 1) = 0) : Xt h (nT h i rt g par pt pos) :=
  (((((((((Xt.rf.N hf).N (kd := 9) (n := 4) hf1).R hf).I hf).I hf).I hf).R hf).I hf).R hf)
theorem nT_ld {mo : Nat} {h : TH} {i rt g pt : Int32} {par pos : Option Nat} (H : LDp mo h) : LDp mo (nT h i rt g par pt pos) := (LDp.N (kd := 9) (n := 4) (LDp.N (kd := 6) (n := 0) H) : LDp mo (s_N (s_N h 6 0) 9 4))
theorem nT_init {h : TH} {i rt g pt : Int32} {par pos : Option Nat} : fX7_init (s_N h 6 0) (t_sz h) i rt g par pt pos = some (nT h i rt g par pt pos) := by
  unfold fX7_init
  rw [if_pos (by rw [kd_sN, kd_sN, if_neg (show ¬ t_sz h = t_sz (s_N h 6 0) by rw [sz_sN]; omega), if_pos rfl])]
  rfl
theorem nT_kd {h : TH} {i rt g pt : Int32} {par pos : Option Nat} {a : Nat} : t_kd (nT h i rt g par pt pos) a = if a = t_sz h + 1 then 9 else if a = t_sz h then 6 else t_kd h a := by
  unfold nT; simp only [kd_sI, kd_sJ, kd_sR, kd_sN, ln_sI, ln_sJ, ln_sR, ln_sN, sz_sI, sz_sJ, sz_sR, sz_sN, I_sI, I_sJ, I_sR, I_sN, J_sI, J_sJ, J_sR, J_sN, R_sI, R_sJ, R_sR, R_sN]; rfl
theorem nT_ln {h : TH} {i rt g pt : Int32} {par pos : Option Nat} {a : Nat} : t_ln (nT h i rt g par pt pos) a = if a = t_sz h + 1 then 4 else if a = t_sz h then 0 else t_ln h a := by
  unfold nT; simp only [kd_sI, kd_sJ, kd_sR, kd_sN, ln_sI, ln_sJ, ln_sR, ln_sN, sz_sI, sz_sJ, sz_sR, sz_sN, I_sI, I_sJ, I_sR, I_sN, J_sI, J_sJ, J_sR, J_sN, R_sI, R_sJ, R_sR, R_sN]; rfl
theorem nT_sz {h : TH} {i rt g pt : Int32} {par pos : Option Nat} : t_sz (nT h i rt g par pt pos) = t_sz h + 2 := rfl
theorem nT_I {h : TH} {i rt g pt : Int32} {par pos : Option Nat} : t_I (nT h i rt g par pt pos) (t_sz h) 0 = i ∧ t_I (nT h i rt g par pt pos) (t_sz h) 1 = rt ∧ t_I (nT h i rt g par pt pos) (t_sz h) 2 = g ∧ t_I (nT h i rt g par pt pos) (t_sz h) 4 = pt ∧ t_I (nT h i rt g par pt pos) (t_sz h) 7 = 0 ∧ ∀ k, t_I (nT h i rt g par pt pos) (t_sz h + 1) k = 0 := by
  unfold nT
  refine ⟨?_, ?_, ?_, ?_, ?_, fun k => ?_⟩ <;> simp [kd_sI, kd_sJ, kd_sR, kd_sN, ln_sI, ln_sJ, ln_sR, ln_sN, sz_sI, sz_sJ, sz_sR, sz_sN, I_sI, I_sJ, I_sR, I_sN, J_sI, J_sJ, J_sR, J_sN, R_sI, R_sJ, R_sR, R_sN]
theorem nT_R {h : TH} {i rt g pt : Int32} {par pos : Option Nat} : t_R (nT h i rt g par pt pos) (t_sz h) 3 = par ∧ t_R (nT h i rt g par pt pos) (t_sz h) 5 = pos ∧ t_R (nT h i rt g par pt pos) (t_sz h) 6 = some (t_sz h + 1) := by
  unfold nT
  refine ⟨?_, ?_, ?_⟩ <;> simp [kd_sI, kd_sJ, kd_sR, kd_sN, ln_sI, ln_sJ, ln_sR, ln_sN, sz_sI, sz_sJ, sz_sR, sz_sN, I_sI, I_sJ, I_sR, I_sN, J_sI, J_sJ, J_sR, J_sN, R_sI, R_sJ, R_sR, R_sN]
/-- the reference's new node -/
def mkS (S : MS) (N : Nat) (par pt : Int32) (b w : Int64) (sd rt : Int32) : MS := ms_i (ms_I (ms_I (ms_J (ms_J (ms_I (ms_I S 28 N par) 30 N pt) 34 N b) 35 N w) 33 N sd) 29 N rt) 36 (nI (N + 1))
theorem makes_X9 {S : MS} {N : Nat} {par pt sd rt : Int32} {b w : Int64} (h36 : m_i S 36 = nI N) (hN : N < 60) (hr : (par = -1 ∧ rt = nI N) ∨ ∃ pr, pr < 60 ∧ par = nI pr ∧ pr ≠ N ∧ rt = m_I S 29 pr) : fX9_makes S par pt b w sd = some (nI N, mkS S N par pt b w sd rt) := by
  have hx := xin_nI (k := N) (n := 60) hN (by omega)
  have hc := clp (k := N) (by omega)
  have e1 : m_i (ms_I S 28 N par) 36 = nI N := h36
  have e2 : m_i (ms_I (ms_I S 28 N par) 30 N pt) 36 = nI N := h36
  have e3 : m_i (ms_J (ms_I (ms_I S 28 N par) 30 N pt) 34 N b) 36 = nI N := h36
  have e4 : m_i (ms_J (ms_J (ms_I (ms_I S 28 N par) 30 N pt) 34 N b) 35 N w) 36 = nI N := h36
  have e5 : m_i (ms_I (ms_J (ms_J (ms_I (ms_I S 28 N par) 30 N pt) 34 N b) 35 N w) 33 N sd) 36 = nI N := h36
  have fin : ∀ v : Int32, v = rt → fX9_makes_78 (ms_I (ms_J (ms_J (ms_I (ms_I S 28 N par) 30 N pt) 34 N b) 35 N w) 33 N sd) (nI N) v = some (nI N, mkS S N par pt b w sd rt) := by
    intro v hv
    subst hv
    have e6 : m_i (ms_I (ms_I (ms_J (ms_J (ms_I (ms_I S 28 N par) 30 N pt) 34 N b) 35 N w) 33 N sd) 29 N v) 36 = nI N := h36
    have e7 : m_i (ms_i (ms_I (ms_I (ms_J (ms_J (ms_I (ms_I S 28 N par) 30 N pt) 34 N b) 35 N w) 33 N sd) 29 N v) 36 (nI (N + 1))) 36 = nI (N + 1) := by rw [mi_i, if_pos rfl]
    unfold fX9_makes_78
    rw [if_pos hx, hc, e6, nI_1, Option.bind_some, e7, nI_pred]
    rfl
  unfold fX9_makes
  rw [h36, if_pos hx, hc, e1, if_pos hx, hc, Option.bind_some, e2, if_pos hx, hc, e3, if_pos hx, hc, Option.bind_some, e4, if_pos hx, hc, e5]
  rcases hr with ⟨h1, h2⟩ | ⟨pr, h1, h2, h3, h4⟩
  · rw [if_pos h1]; exact fin _ h2.symm
  · rw [if_neg (by rw [h2]; exact nI_nm1 (by omega)), h2, if_pos (xin_nI h1 (by omega)), clp (show pr < 2 ^ 31 by omega), ← h2]
    refine fin _ ?_
    rw [h4]
    simp only [mI_I, mI_J]
    simp
theorem mkS_I {S : MS} {N : Nat} {par pt sd rt : Int32} {b w : Int64} {a j : Nat} : m_I (mkS S N par pt b w sd rt) a j = if a = 29 ∧ j = N then rt else if a = 33 ∧ j = N then sd else if a = 30 ∧ j = N then pt else if a = 28 ∧ j = N then par else m_I S a j := by
  unfold mkS; rw [mI_i, mI_I, mI_I, mI_J, mI_J, mI_I, mI_I]
theorem mkS_i {S : MS} {N : Nat} {par pt sd rt : Int32} {b w : Int64} {k : Nat} : m_i (mkS S N par pt b w sd rt) k = if k = 36 then nI (N + 1) else m_i S k := by
  unfold mkS; rw [mi_i]; rfl
theorem mkS_J {S : MS} {N : Nat} {par pt sd rt : Int32} {b w : Int64} {a j : Nat} : m_J (mkS S N par pt b w sd rt) a j = if a = 35 ∧ j = N then w else if a = 34 ∧ j = N then b else m_J S a j := by
  unfold mkS; rw [mJ_i, mJ_I, mJ_I, mJ_J, mJ_J, mJ_I, mJ_I]
section LESSON
variable {u mo : Nat} {h : TH} {S : MS} {t c s n G N P : Nat} {gm nd : Nat → Nat} {gl nl : Nat → List BW} {ol : List Nat} {kp : Nat → Bool}
theorem isFull_X6 (H : Rel u mo h S t c s n G N P gm nd gl nl ol kp) : fX6_isFull h s = some (!decide (N < 60)) := by
  have h60 := H.N60
  have hk5 : t_kd h s = 5 := H.1.2.2.2.2.1
  obtain ⟨r0, r13, r60⟩ := H.1.2.2.2.2.2.1
  unfold fX6_isFull
  rw [if_pos hk5, H.2.2.2.2.1.2.1, if_neg (nI_pos (by omega)), r0, Option.bind_some, if_pos r13, r60]
  by_cases e : N < 60
  · rw [if_pos (nI_lt e (by omega)), decide_eq_true e]; rfl
  · rw [if_neg (nI_nlt (by omega) (by omega)), decide_eq_false e]; rfl
/-- lesson -/
theorem call_lesson {K : Nat} (hK : K ≤ 4000) (H0 : RR mo t K h S) (x y : Int32) : Agr mo t K [eI, eA, eS] (fX8_lesson h t x y) (fX9_lesson S x y) := by
  obtain ⟨c, s, n, G, N, P, gm, nd, gl, nl, ol, kp, hP, H⟩ := id H0
  have h16 := H.G16
  have h60 := H.N60
  have hk5 : t_kd h s = 5 := H.1.2.2.2.2.1
  obtain ⟨r0, r13, r60⟩ := H.1.2.2.2.2.2.1
  have h36 : m_i S 36 = nI N := H.2.2.2.2.1.2.2.1
  unfold fX8_lesson fX9_lesson
  rw [if_pos H.1.1, isGame_X9 H, Option.bind_some]
  rcases matchOf_X8 H x with ⟨g, hg, rfl, e⟩ | ⟨e1, e⟩
  · obtain ⟨q, L, b, l, e0, a1, a2, a3, a4, a5, a6⟩ := H.pos hg
    have hlen := H.2.2.2.2.2.1.2.1 g hg
    rw [e0] at hlen
    simp only [List.length_cons] at hlen
    rw [isN_nI hg (by omega), if_neg tf, e, Option.bind_some, xcs_1]
    dsimp only
    rw [Option.bind_some, if_pos (H.gM hg).k3, a1, Option.bind_some, if_pos a2.1, a2.2.2.2.2.1, range_X8, Option.bind_some, if_pos (xin_nI (show g < 16 by omega) (by omega)), clp (show g < 2 ^ 31 by omega), a6, isIn_X9, Option.bind_some]
    have hR : (decide ((0 : Int32) ≤ y) && decide (y ≤ nI l.length)) = inR y 0 (nI l.length) := rfl
    rw [hR]
    cases hr : inR y 0 (nI l.length)
    · rw [if_neg ff, xcs_2, if_pos rfl]
      exact Agr.err H0 (fun n => Sq.f) (j := 1) (E := eA) (b := 0) (S2 := ms_i S 47 2) rfl (by omega) rfl (by unfold fX9_lesson_47; rw [fails_2]; rfl) i47
    · obtain ⟨m, -, hm, rfl⟩ := inR_ex (a := 0) (b := l.length) (by omega) (by omega) hr
      rw [if_pos rfl, xcs_1, if_neg tf, if_pos (H.gM hg).k3, a1, Option.bind_some, if_pos a2.1]
      obtain ⟨pre, w, l', q', L', p1, p2, p3, p4, p5, p6⟩ := back_ok (t0 := q) (fu := FU) (by omega) l b q L a2 a4 hm (by omega) (by unfold FU; omega)
      have hbh : fX4_behind h q (nI m) = some (some q') := p3
      rw [hbh, Option.bind_some, if_neg (by simp), if_pos H.1.1, H.1.2.2.1, Option.bind_some, if_pos hk5, h36]
      unfold fX6_begin
      rw [if_pos hk5, isFull_X6 H, Option.bind_some]
      by_cases hN : N < 60
      · have hld := H.2.2.2.2.2.2
        have hz0 := hld.z
        have hz1 : t_kd h (t_sz h + 1) = 0 := hld.2.2 _ (by omega)
        have hsz : s ≠ t_sz h := fun e => by rw [← e] at hz0; omega
        have e2 : t_I (s_N h 6 0) s 2 = nI N := by rw [I_sN, if_neg hsz]; exact H.2.2.2.2.1.2.1
        have ek5 : t_kd (s_N h 6 0) s = 5 := by rw [kd_sN, if_neg hsz]; exact hk5
        rw [decide_eq_true hN, if_pos (show (!true) = false from rfl), if_pos ek5, e2, nT_init, Option.bind_some, r0, Option.bind_some, H.2.2.2.2.1.2.1]
        have hxt : Xt h (nT h (nI N) (nI N) (nI g) none (-2) (some q')) := nT_xt hz0 hz1
        have hldn : LDp mo (nT h (nI N) (nI N) (nI g) none (-2) (some q')) := nT_ld hld
        have k6 : t_kd (nT h (nI N) (nI N) (nI g) none (-2) (some q')) (t_sz h) = 6 := by rw [nT_kd, if_neg (by omega), if_pos rfl]
        have k9 : t_kd (nT h (nI N) (nI N) (nI g) none (-2) (some q')) (t_sz h + 1) = 9 := by rw [nT_kd, if_pos rfl]
        have l4 : t_ln (nT h (nI N) (nI N) (nI g) none (-2) (some q')) (t_sz h + 1) = 4 := by rw [nT_ln, if_pos rfl]
        obtain ⟨i0, i1, i2, i4, i7, im⟩ := nT_I (h := h) (i := nI N) (rt := nI N) (g := nI g) (par := none) (pt := -2) (pos := some q')
        obtain ⟨r3, r5, r6⟩ := nT_R (h := h) (i := nI N) (rt := nI N) (g := nI g) (par := none) (pt := -2) (pos := some q')
        generalize hz : t_sz h = z at *
        generalize nT h (nI N) (nI N) (nI g) none (-2) (some q') = hn at *
        have kn13 := hxt.1.kd r13
        have kn5 := hxt.1.kd hk5
        have ln60 := hxt.1.ln r13 r60
        have eall : (some z).all (fun b => t_kd hn b == 6) = true := by simp [k6]
        have es2 : t_I (s_R hn (s + 1) N (some z)) s 2 = nI N := by
          rw [I_sR, (hxt.2 s (by omega)).1]; exact H.2.2.2.2.1.2.1
        rw [if_pos kn13, ln60, if_pos (xin_nI hN (by omega)), clp (show N < 2 ^ 31 by omega), if_pos eall, kd_sR, if_pos kn5, es2, nI_1, Option.bind_some, Option.bind_some]
        unfold fX8_lesson_47
        dsimp only
        rw [if_pos (show (0 : Int32) ≤ nI N from nI_pos' (by omega)), if_neg (show ¬ nI N = 60 from fun z => absurd ((nI_eq (by omega) (by omega)).mp (z.trans (show (60 : Int32) = nI 60 by decide))) (by omega))]
        have hL' := p6.1
        have h9 : fX9_lesson_47 S (nI g) (nI m) 0 = some (nI N, ms_I (ms_I (mkS (ms_i S 47 0) N (-1) (-2) w.1 w.2 (nI ((bg S g + m) % 2)) (nI N)) 31 N (nI g)) 32 N (nI m)) := by
          unfold fX9_lesson_47
          rw [fails_0, Option.bind_some]
          dsimp only
          have hs : Sq n S (ms_i S 47 0) := Sq.f
          have hpos : fX9_position (ms_i S 47 0) (nI g) (nI m) = some (nI L') := by
            unfold fX9_position
            rw [if_pos (xin_nI (show g < 16 by omega) (by omega)), clp (show g < 2 ^ 31 by omega), mI_i, a3, a6, position_c (S := S) (by rw [mI_i])]
            exact p5
          rw [if_pos rfl, hpos, Option.bind_some, if_pos (xin_nI (show L' < 4096 by omega) (by omega)), sideOf_X9 (by omega) (by omega), Option.bind_some, clp (show L' < 2 ^ 31 by omega)]
          have hbg : bg (ms_i S 47 0) g = bg S g := rfl
          have hj : m_J (ms_i S 47 0) 18 L' = w.1 ∧ m_J (ms_i S 47 0) 19 L' = w.2 := ⟨p6.2.1, p6.2.2.1⟩
          rw [hbg, hj.1, hj.2, makes_X9 (rt := nI N) (by rw [mi_i, if_neg (by omega)]; exact h36) hN (Or.inl ⟨rfl, rfl⟩), Option.bind_some]
          dsimp only
          rw [if_pos (xin_nI hN (by omega)), clp (show N < 2 ^ 31 by omega)]
        rw [h9]
        have hs : Sq n S (ms_i S 47 0) := Sq.f
        have HS := H.sq hs
        have e28 : m_I (ms_I (ms_I (mkS (ms_i S 47 0) N (-1) (-2) w.1 w.2 (nI ((bg S g + m) % 2)) (nI N)) 31 N (nI g)) 32 N (nI m)) 28 N = -1 := by
          rw [mI_I, if_neg (by omega), mI_I, if_neg (by omega), mkS_I, if_neg (by omega), if_neg (by omega), if_neg (by omega), if_pos ⟨rfl, rfl⟩]
        have e30 : m_I (ms_I (ms_I (mkS (ms_i S 47 0) N (-1) (-2) w.1 w.2 (nI ((bg S g + m) % 2)) (nI N)) 31 N (nI g)) 32 N (nI m)) 30 N = -2 := by
          rw [mI_I, if_neg (by omega), mI_I, if_neg (by omega), mkS_I, if_neg (by omega), if_neg (by omega), if_pos ⟨rfl, rfl⟩]
        have e33 : m_I (ms_I (ms_I (mkS (ms_i S 47 0) N (-1) (-2) w.1 w.2 (nI ((bg S g + m) % 2)) (nI N)) 31 N (nI g)) 32 N (nI m)) 33 N = nI ((bg S g + m) % 2) := by
          rw [mI_I, if_neg (by omega), mI_I, if_neg (by omega), mkS_I, if_neg (by omega), if_pos ⟨rfl, rfl⟩]
        have e29 : m_I (ms_I (ms_I (mkS (ms_i S 47 0) N (-1) (-2) w.1 w.2 (nI ((bg S g + m) % 2)) (nI N)) 31 N (nI g)) 32 N (nI m)) 29 N = nI N := by
          rw [mI_I, if_neg (by omega), mI_I, if_neg (by omega), mkS_I, if_pos ⟨rfl, rfl⟩]
        have e31 : m_I (ms_I (ms_I (mkS (ms_i S 47 0) N (-1) (-2) w.1 w.2 (nI ((bg S g + m) % 2)) (nI N)) 31 N (nI g)) 32 N (nI m)) 31 N = nI g := by
          rw [mI_I, if_neg (by omega), mI_I, if_pos ⟨rfl, rfl⟩]
        have e32 : m_I (ms_I (ms_I (mkS (ms_i S 47 0) N (-1) (-2) w.1 w.2 (nI ((bg S g + m) % 2)) (nI N)) 31 N (nI g)) 32 N (nI m)) 32 N = nI m := by
          rw [mI_I, if_pos ⟨rfl, rfl⟩]
        have e34 : m_J (ms_I (ms_I (mkS (ms_i S 47 0) N (-1) (-2) w.1 w.2 (nI ((bg S g + m) % 2)) (nI N)) 31 N (nI g)) 32 N (nI m)) 34 N = w.1 := by
          rw [mJ_I, mJ_I, mkS_J, if_neg (by omega), if_pos ⟨rfl, rfl⟩]
        have e35 : m_J (ms_I (ms_I (mkS (ms_i S 47 0) N (-1) (-2) w.1 w.2 (nI ((bg S g + m) % 2)) (nI N)) 31 N (nI g)) 32 N (nI m)) 35 N = w.2 := by
          rw [mJ_I, mJ_I, mkS_J, if_pos ⟨rfl, rfl⟩]
        have ei : ∀ k, k ≠ 36 → m_i (ms_I (ms_I (mkS (ms_i S 47 0) N (-1) (-2) w.1 w.2 (nI ((bg S g + m) % 2)) (nI N)) 31 N (nI g)) 32 N (nI m)) k = m_i (ms_i S 47 0) k := fun k hk => by
          rw [mi_I, mi_I, mkS_i, if_neg hk]
        have e36 : m_i (ms_I (ms_I (mkS (ms_i S 47 0) N (-1) (-2) w.1 w.2 (nI ((bg S g + m) % 2)) (nI N)) 31 N (nI g)) 32 N (nI m)) 36 = nI (N + 1) := by
          rw [mi_I, mi_I, mkS_i, if_pos rfl]
        have eI : ∀ a, a < 28 ∨ 33 < a → m_I (ms_I (ms_I (mkS (ms_i S 47 0) N (-1) (-2) w.1 w.2 (nI ((bg S g + m) % 2)) (nI N)) 31 N (nI g)) 32 N (nI m)) a = m_I (ms_i S 47 0) a := fun a ha => by
          funext j
          rw [mI_I, if_neg (by omega), mI_I, if_neg (by omega), mkS_I, if_neg (by omega), if_neg (by omega), if_neg (by omega), if_neg (by omega)]
        have eN : ∀ a j, j ≠ N → m_I (ms_I (ms_I (mkS (ms_i S 47 0) N (-1) (-2) w.1 w.2 (nI ((bg S g + m) % 2)) (nI N)) 31 N (nI g)) 32 N (nI m)) a j = m_I (ms_i S 47 0) a j := fun a j ha => by
          rw [mI_I, if_neg (fun z => ha z.2), mI_I, if_neg (fun z => ha z.2), mkS_I, if_neg (fun z => ha z.2), if_neg (fun z => ha z.2), if_neg (fun z => ha z.2), if_neg (fun z => ha z.2)]
        have eJ : ∀ a, a ≠ 34 → a ≠ 35 → m_J (ms_I (ms_I (mkS (ms_i S 47 0) N (-1) (-2) w.1 w.2 (nI ((bg S g + m) % 2)) (nI N)) 31 N (nI g)) 32 N (nI m)) a = m_J (ms_i S 47 0) a := fun a b1 b2 => by
          funext j
          rw [mJ_I, mJ_I, mkS_J, if_neg (fun z => b2 z.1), if_neg (fun z => b1 z.1)]
        have eJN : ∀ a j, j ≠ N → m_J (ms_I (ms_I (mkS (ms_i S 47 0) N (-1) (-2) w.1 w.2 (nI ((bg S g + m) % 2)) (nI N)) 31 N (nI g)) 32 N (nI m)) a j = m_J (ms_i S 47 0) a j := fun a j ha => by
          rw [mJ_I, mJ_I, mkS_J, if_neg (fun z => ha z.2), if_neg (fun z => ha z.2)]
        generalize ms_I (ms_I (mkS (ms_i S 47 0) N (-1) (-2) w.1 w.2 (nI ((bg S g + m) % 2)) (nI N)) 31 N (nI g)) 32 N (nI m) = S2 at *
        have hbg2 : bg S2 g = bg S g := by unfold bg; rw [eI 7 (by omega)]; rfl
        have hI : ∀ a j, t_kd h a ≠ 0 → ¬ (a = s ∧ j = 2) → t_I (s_I (s_R hn (s + 1) N (some z)) s 2 (nI (N + 1))) a j = t_I h a j := fun a j b1 b2 => by rw [I_sI, if_neg b2, I_sR, (hxt.2 a b1).1]
        have hI0 : ∀ a j, a ≠ s → t_I (s_I (s_R hn (s + 1) N (some z)) s 2 (nI (N + 1))) a j = t_I hn a j := fun a j b2 => by rw [I_sI, if_neg (fun z => b2 z.1), I_sR]
        have hR0 : ∀ a j, a ≠ s + 1 → t_R (s_I (s_R hn (s + 1) N (some z)) s 2 (nI (N + 1))) a j = t_R hn a j := fun a j b2 => by rw [R_sI, R_sR, if_neg (fun z => b2 z.1)]
        have A : Bx h (s_I (s_R hn (s + 1) N (some z)) s 2 (nI (N + 1))) := (hxt.1.R (Or.inr (Or.inr (Or.inl r13)))).I (Or.inr (Or.inr (Or.inr (Or.inl hk5))))
        have zs : z ≠ s := fun e => hsz e.symm
        have zs1 : z ≠ s + 1 := fun e => by rw [e, r13] at hz0; cases hz0
        have z1s : z + 1 ≠ s := fun e => by rw [e, hk5] at hz1; cases hz1
        have hls : OKB w ∧ ∀ x ∈ (w :: l'), OKB x := by
          have : ∀ x ∈ (w :: l'), OKB x := fun x hx => by
            have hp := (H.pm hg).1
            rw [e0, p1] at hp
            exact hp x (List.mem_append_right _ hx)
          exact ⟨this w List.mem_cons_self, this⟩
        refine ⟨_, _, ⟨c, s, n, G, N + 1, P, gm, upN nd N z, gl, upN nl N (w :: l'), ol, kp, by omega, ?_⟩, Or.inl ⟨nI N, rfl, rfl, ?_⟩⟩
        · refine HS.node hN (z := z) A hz0 (fun a j b1 b2 _ => hI a j b1 b2) (fun a j b1 b2 => by rw [R_sI, R_sR, if_neg b2, (hxt.2 a b1).2]) (by rw [I_sI, if_pos ⟨rfl, rfl⟩]) (by rw [R_sI, R_sR, if_pos ⟨rfl, rfl⟩]) (fun i hi => ?_) (LDp.I (LDp.R hldn)) (fun k b1 b2 => ei k b1) e36 eI eN eJ eJN ?_ (fun i hi b1 => absurd e28 b1)
          · have m6 := (H.nm hi).1
            rw [if_neg (by rw [e28]; exact fun z => nI_nm1 (by omega) z.symm)]
            exact hI _ _ (by omega) (fun z => by rw [z.1] at m6; omega)
          · have hc0 : ((List.range (N + 1)).countP fun j => decide (m_I S2 28 j = nI N)) = 0 := by
              rw [List.countP_eq_zero]
              intro j hj
              have hj2 := List.mem_range.mp hj
              by_cases q : j = N
              · subst q; rw [e28]; simp; exact fun z => nI_nm1 (by omega) z.symm
              · have e9 := eN 28 j q
                rw [mI_i] at e9
                obtain ⟨-, -, -, -, -, -, rt, g9, -, -, -, -, -, -, -, -, -, d⟩ := H.nm (show j < N by omega)
                rcases d with ⟨-, d, -⟩ | ⟨pr, d1, d2, -⟩
                · rw [e9, d]; simp; exact fun z => nI_nm1 (by omega) z.symm
                · rw [e9, d2]; simp
                  exact fun z => by have := (nI_eq (by omega) (by omega)).mp z; omega
            unfold NM
            rw [upN_at, upN_at, e28, e29, e30, e32, e33, e34, e35, hc0, hI0 z _ zs, hI0 z _ zs, hI0 z _ zs, hI0 z _ zs, hI0 z _ zs, hR0 z _ zs1, hR0 z _ zs1, hR0 z _ zs1, i0, i1, i2, i4, i7, r3, r5, r6]
            refine ⟨by rw [kd_sI, kd_sR]; exact k6, rfl, rfl, rfl, ⟨rfl, by rw [kd_sI, kd_sR]; exact k9, by rw [ln_sI, ln_sR]; exact l4, fun k hk => ?_⟩, hls.2, N, g, Nat.le_refl _, rfl, rfl, hg, e31, rfl, ⟨q', rfl, ?_⟩, rfl, ?_, Or.inl ⟨rfl, rfl, rfl, rfl, ?_, pre, ?_⟩⟩
            · rw [hI0 _ _ z1s, im, eI 36 (by omega)]
              exact (H.2.2.2.2.2.1.2.2.2 N k (Nat.le_refl _) hN hk).symm
            · rw [hbg2]; exact WH.bx A _ q' p4
            · rw [hbg2, List.length_cons, p2]; rfl
            · rw [List.length_cons, p2]; rfl
            · rw [e0, p1]
        · rw [ei 47 (by omega)]; exact i47
      · rw [decide_eq_false hN, if_neg (by decide), Option.bind_some]
        unfold fX8_lesson_47
        dsimp only
        rw [if_neg (by decide), if_pos (show nI N = 60 by rw [show N = 60 by omega]; decide)]
        exact Agr.err H0 (fun n => Sq.f) (j := 2) (E := eS) (b := 0) (S2 := ms_i S 47 3) rfl (by omega) rfl (by unfold fX9_lesson_47; rw [fails_3]; rfl) i47
  · rw [e1, if_pos rfl, e, Option.bind_some, xcs_2]
    exact Agr.err H0 (fun n => Sq.f) (j := 0) (E := eI) (b := 0) (S2 := ms_i S 47 1) rfl (by omega) rfl (by unfold fX9_lesson_47; rw [fails_1]; rfl) i47
end LESSON
